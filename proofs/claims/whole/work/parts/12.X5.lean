def f_X5_pastNothing_2 (n : Nat)  : Nat → Nat → (Nat → Int32) → Int32 → Int32 → Option Int32
  | 0, _, _, _, _ => none
  | k + 1, L1, f1_kind, v1_count, x3 => if v1_count ≤ x3 then (some (-1 : Int32)) else (gd x3 L1 (if (f1_kind (x3).toNatClampNeg) = 0 then (f_X5_pastNothing_2 n k L1 f1_kind v1_count (x3 + (1 : Int32))) else (some x3)))
def f_X5_pastNothing (n : Nat) (L1 : Nat) (f1_kind : (Nat → Int32)) (v1_count : Int32) (x2 : Int32) : Option Int32 := f_X5_pastNothing_2 n n L1 f1_kind v1_count x2
theorem iw_X5_pastNothing_X6 : ∀ w ∈ wsX60, w ∈ wsX5_pastNothing := by decide +kernel
set_option maxHeartbeats 4000000 in
set_option maxRecDepth 100000 in
theorem c_X5_pastNothing (l : Launch) (D : va_G) (cI cZ : ClassId) (h0 h1 h1_kind h1_d h1_a h1_b : Nat) (sz : Nat) (L1 : Nat) (f1_kind : Nat → Int32) (v1_count : Int32) (n : Nat) (x2 : Int32) (res : Int32) (hf : f_X5_pastNothing n L1 f1_kind v1_count x2 = some res) : Ct_i l yX5_pastNothing wsX5_pastNothing ({ frames := 0, cells := 0, slots := 0, locals := 0 }) D [(cI, .int), (cZ, .boolean)] [.ref h0, .ref h1, .int x2] sz [(h1, .inr (5, [.ref h1_kind, .ref h1_d, .ref h1_a, .ref h1_b, .int v1_count])), (h1_kind, .inl (cI, L1, .inl f1_kind))] res [(h1, .inr (5, [.ref h1_kind, .ref h1_d, .ref h1_a, .ref h1_b, .int v1_count])), (h1_kind, .inl (cI, L1, .inl f1_kind))] := by
  refine g_of (cc := cX5_pastNothing) (maxL := 4) (ret := some .int) (QQ := (fun A => g_Qi D [(cI, .int), (cZ, .boolean)] A res [(h1, .inr (5, [.ref h1_kind, .ref h1_d, .ref h1_a, .ref h1_b, .int v1_count])), (h1_kind, .inl (cI, L1, .inl f1_kind))])) (by decide) rfl (Nat.le_of_ble_eq_true rfl) ?_
  intro p e s m args below meth c A ls S hr hlocks hA hP hK hD hl
  show W p l e ({ frames := 0, cells := 0, slots := 0, locals := 0 }) s m args below meth c s.heap [] 0 0 (MQ below (g_Qi D [(cI, .int), (cZ, .boolean)] A res [(h1, .inr (5, [.ref h1_kind, .ref h1_d, .ref h1_a, .ref h1_b, .int v1_count])), (h1_kind, .inl (cI, L1, .inl f1_kind))]) args s 0 0 A) (F0 m 0 ls [])
  have hx := S.1
  have hb := S.2.1
  have hml := S.2.2.1
  have hown := S.2.2.2.1
  have hts := S.2.2.2.2
  have fl_19 := hts (.fieldLink RX5 19 "PassPipeline$Program" "count" "I") (by decide +kernel)
  have fl_25 := hts (.fieldLink RX5 25 "PassPipeline$Program" "kind" "[I") (by decide +kernel)
  have hS : va_S A s.heap s.heap [] := va_S.rf
  have hl : lv_has ls 4 [(0, .ref h0), (1, .ref h1), (2, .int x2)] := hl
  have hJ_2 : ∀ (k : Nat)  (x3 : Int32) (H : Heap) (locs : List Loc) (ls : Array Slot), f_X5_pastNothing_2 n k L1 f1_kind v1_count x3 = some res → va_P D vwCl [(h1, .inr (5, [.ref h1_kind, .ref h1_d, .ref h1_a, .ref h1_b, .int v1_count])), (h1_kind, .inl (cI, L1, .inl f1_kind))] H → va_D A [(h1, .inr (5, [.ref h1_kind, .ref h1_d, .ref h1_a, .ref h1_b, .int v1_count])), (h1_kind, .inl (cI, L1, .inl f1_kind))] → va_S A s.heap H locs → lv_has ls 4 [(1, .ref h1), (3, .int x3)] → W p l e ({ frames := 0, cells := 0, slots := 0, locals := 0 }) s m args below meth c H locs 0 0 (MQ below (g_Qi D [(cI, .int), (cZ, .boolean)] A res [(h1, .inr (5, [.ref h1_kind, .ref h1_d, .ref h1_a, .ref h1_b, .int v1_count])), (h1_kind, .inl (cI, L1, .inl f1_kind))]) args s 0 0 A) (F0 m 2 ls []) := by
    intro k
    induction k with
    | zero => intro x3 H locs ls hf; rw [f_X5_pastNothing_2] at hf; cases hf
    | succ m_2 ih =>
      have ih_2 : ∀  (x3 : Int32) (H : Heap) (locs : List Loc) (ls : Array Slot), (fun x3' => f_X5_pastNothing_2 n m_2 L1 f1_kind v1_count x3') x3 = some res → va_P D vwCl [(h1, .inr (5, [.ref h1_kind, .ref h1_d, .ref h1_a, .ref h1_b, .int v1_count])), (h1_kind, .inl (cI, L1, .inl f1_kind))] H → va_D A [(h1, .inr (5, [.ref h1_kind, .ref h1_d, .ref h1_a, .ref h1_b, .int v1_count])), (h1_kind, .inl (cI, L1, .inl f1_kind))] → va_S A s.heap H locs → lv_has ls 4 [(1, .ref h1), (3, .int x3)] → W p l e ({ frames := 0, cells := 0, slots := 0, locals := 0 }) s m args below meth c H locs 0 0 (MQ below (g_Qi D [(cI, .int), (cZ, .boolean)] A res [(h1, .inr (5, [.ref h1_kind, .ref h1_d, .ref h1_a, .ref h1_b, .int v1_count])), (h1_kind, .inl (cI, L1, .inl f1_kind))]) args s 0 0 A) (F0 m 2 ls []) := ih
      intro x3 H locs ls hf hP hD hS hl
      rw [f_X5_pastNothing_2] at hf
      refine lv_iload_n hx hb dX5_pastNothing_2 rfl (lv_at hl 1 rfl) ?_
      refine lv_aload_n hx hb dX5_pastNothing_3 rfl (lv_at hl 0 rfl) ?_
      refine va_get (D := D) (ci := 5) (v := .int v1_count) (C := RX6) (T := TX6) (N := 5) hx hb hts iw_X5_pastNothing_X6 hown hK hP 0 rfl rfl 4 (by decide) fl_19 (fun _ h9 => h9) rfl dX5_pastNothing_4 ?_
      refine lv_icmp_ge (tgt := 27) hx hb dX5_pastNothing_7 (by decide) (fun c1 => ?_) (fun c1 => ?_)
      · have hf := ite_t hf c1
        refine lv_iconst (v := (-1 : Int32)) hx hb dX5_pastNothing_27 (by decide) ?_
        have hf := Option.some.inj hf
        subst hf
        exact g_iret hx hb hr hlocks (hP.sub [0, 1] rfl) (hD.sub [0, 1] (by decide) rfl) hK hS rfl dX5_pastNothing_28
      · have hf := ite_e hf c1
        refine lv_aload_n hx hb dX5_pastNothing_10 rfl (lv_at hl 0 rfl) ?_
        refine va_get (D := D) (ci := 5) (v := .ref h1_kind) (C := RX6) (T := TX6) (N := 5) hx hb hts iw_X5_pastNothing_X6 hown hK hP 0 rfl rfl 0 (by decide) fl_25 (fun _ h9 => h9) rfl dX5_pastNothing_11 ?_
        refine lv_iload_n hx hb dX5_pastNothing_14 rfl (lv_at hl 1 rfl) ?_
        obtain ⟨i2, hf⟩ := gd_some hf
        refine va_iald hx hb hK hP 1 0 rfl rfl i2 dX5_pastNothing_15 ?_
        refine lv_if_eq (tgt := 21) hx hb dX5_pastNothing_16 (by decide) (fun c3 => ?_) (fun c3 => ?_)
        · have hf := ite_t hf c3
          refine lv_iinc (v := (x3 + (1 : Int32))) (lv' := [(3, .int (x3 + (1 : Int32))), (1, .ref h1)]) hx hb dX5_pastNothing_21 hl (k := 1) rfl rfl (by decide) rfl (fun ls hl => ?_)
          refine lv_goto (tgt := 2) hx hb dX5_pastNothing_24 (by decide) ?_
          exact ih_2 _ _ _ ls hf (hP.sub [0, 1] rfl) (hD.sub [0, 1] (by decide) rfl) hS (lv_sub hl [1, 0] rfl)
        · have hf := ite_e hf c3
          refine lv_iload_n hx hb dX5_pastNothing_19 rfl (lv_at hl 1 rfl) ?_
          have hf := Option.some.inj hf
          subst hf
          exact g_iret hx hb hr hlocks (hP.sub [0, 1] rfl) (hD.sub [0, 1] (by decide) rfl) hK hS rfl dX5_pastNothing_20
  unfold f_X5_pastNothing at hf
  refine lv_iload_n hx hb dX5_pastNothing_0 rfl (lv_at hl 2 rfl) ?_
  refine lv_istore_n (lv' := [(3, .int x2), (0, .ref h0), (1, .ref h1), (2, .int x2)]) hx hb dX5_pastNothing_1 rfl hl (by decide) rfl (fun ls hl => ?_)
  exact hJ_2 n _ _ _ ls hf (hP.sub [0, 1] rfl) (hD.sub [0, 1] (by decide) rfl) hS (lv_sub hl [2, 0] rfl)

def f_X5_goFurther_2 (n : Nat)  : Nat → Nat → (Nat → Int32) → (Nat → Int32) → Int32 → Int32 → Int32 → Option (Nat → Int32)
  | 0, _, _, _, _, _, _ => none
  | k + 1, L1, f1_d, f1_kind, v1_count, x2, x3 => if (24 : Int32) ≤ x3 then (some f1_d) else (gd x2 L1 ((f_X5_pastNothing n L1 f1_kind v1_count (f1_d (x2).toNatClampNeg)).bind (fun u3 => if u3 = (-1 : Int32) then (f_X5_goFurther_2 n k L1 f1_d f1_kind v1_count x2 (x3 + (1 : Int32))) else (gd u3 L1 (if (f1_kind (u3).toNatClampNeg) = (9 : Int32) then (gd u3 L1 (gd x2 L1 (f_X5_goFurther_2 n k L1 (upd f1_d (x2).toNatClampNeg (f1_d (u3).toNatClampNeg)) f1_kind v1_count x2 (x3 + (1 : Int32))))) else (f_X5_goFurther_2 n k L1 f1_d f1_kind v1_count x2 (x3 + (1 : Int32))))))))
def f_X5_goFurther (n : Nat) (L1 : Nat) (f1_d : (Nat → Int32)) (f1_kind : (Nat → Int32)) (v1_count : Int32) (x2 : Int32) : Option (Nat → Int32) := f_X5_goFurther_2 n n L1 f1_d f1_kind v1_count x2 (0 : Int32)
theorem iw_X5_goFurther_X6 : ∀ w ∈ wsX60, w ∈ wsX5_goFurther := by decide +kernel
set_option maxHeartbeats 4000000 in
set_option maxRecDepth 100000 in
theorem c_X5_goFurther (l : Launch) (D : va_G) (cI cZ : ClassId) (h0 h1 h0_leaves h0_place h1_kind h1_d h1_a h1_b : Nat) (sz : Nat) (L1 : Nat) (f1_d f1_kind : Nat → Int32) (v1_count : Int32) (n : Nat) (x2 : Int32) (res : (Nat → Int32)) (hf : f_X5_goFurther n L1 f1_d f1_kind v1_count x2 = some res) : Ct_v l yX5_goFurther wsX5_goFurther ({ frames := 1, cells := 0, slots := 0, locals := 23 }) D [(cI, .int), (cZ, .boolean)] [.ref h0, .ref h1, .int x2] sz [(h0, .inr (4, [.ref h0_leaves, .ref h0_place])), (h1, .inr (5, [.ref h1_kind, .ref h1_d, .ref h1_a, .ref h1_b, .int v1_count])), (h1_d, .inl (cI, L1, .inl f1_d)), (h1_kind, .inl (cI, L1, .inl f1_kind))] [(h0, .inr (4, [.ref h0_leaves, .ref h0_place])), (h1, .inr (5, [.ref h1_kind, .ref h1_d, .ref h1_a, .ref h1_b, .int v1_count])), (h1_d, .inl (cI, L1, .inl res)), (h1_kind, .inl (cI, L1, .inl f1_kind))] := by
  refine g_of (cc := cX5_goFurther) (maxL := 5) (ret := none) (QQ := (fun A => g_Qv D [(cI, .int), (cZ, .boolean)] A [(h0, .inr (4, [.ref h0_leaves, .ref h0_place])), (h1, .inr (5, [.ref h1_kind, .ref h1_d, .ref h1_a, .ref h1_b, .int v1_count])), (h1_d, .inl (cI, L1, .inl res)), (h1_kind, .inl (cI, L1, .inl f1_kind))])) (by decide) rfl (Nat.le_of_ble_eq_true rfl) ?_
  intro p e s m args below meth c A ls S hr hlocks hA hP hK hD hl
  show W p l e ({ frames := 1, cells := 0, slots := 0, locals := 23 }) s m args below meth c s.heap [] 0 0 (MQ below (g_Qv D [(cI, .int), (cZ, .boolean)] A [(h0, .inr (4, [.ref h0_leaves, .ref h0_place])), (h1, .inr (5, [.ref h1_kind, .ref h1_d, .ref h1_a, .ref h1_b, .int v1_count])), (h1_d, .inl (cI, L1, .inl res)), (h1_kind, .inl (cI, L1, .inl f1_kind))]) args s 0 0 A) (F0 m 0 ls [])
  have hx := S.1
  have hb := S.2.1
  have hml := S.2.2.1
  have hown := S.2.2.2.1
  have hts := S.2.2.2.2
  have fl_25 := hts (.fieldLink RX5 25 "PassPipeline$Program" "kind" "[I") (by decide +kernel)
  have fl_46 := hts (.fieldLink RX5 46 "PassPipeline$Program" "d" "[I") (by decide +kernel)
  have hS : va_S A s.heap s.heap [] := va_S.rf
  have hl : lv_has ls 5 [(0, .ref h0), (1, .ref h1), (2, .int x2)] := hl
  have hJ_2 : ∀ (k : Nat) (f1_d : (Nat → Int32)) (x2 x3 : Int32) (H : Heap) (locs : List Loc) (ls : Array Slot), f_X5_goFurther_2 n k L1 f1_d f1_kind v1_count x2 x3 = some res → va_P D vwCl [(h0, .inr (4, [.ref h0_leaves, .ref h0_place])), (h1, .inr (5, [.ref h1_kind, .ref h1_d, .ref h1_a, .ref h1_b, .int v1_count])), (h1_d, .inl (cI, L1, .inl f1_d)), (h1_kind, .inl (cI, L1, .inl f1_kind))] H → va_D A [(h0, .inr (4, [.ref h0_leaves, .ref h0_place])), (h1, .inr (5, [.ref h1_kind, .ref h1_d, .ref h1_a, .ref h1_b, .int v1_count])), (h1_d, .inl (cI, L1, .inl f1_d)), (h1_kind, .inl (cI, L1, .inl f1_kind))] → va_S A s.heap H locs → lv_has ls 5 [(0, .ref h0), (1, .ref h1), (2, .int x2), (3, .int x3)] → W p l e ({ frames := 1, cells := 0, slots := 0, locals := 23 }) s m args below meth c H locs 0 0 (MQ below (g_Qv D [(cI, .int), (cZ, .boolean)] A [(h0, .inr (4, [.ref h0_leaves, .ref h0_place])), (h1, .inr (5, [.ref h1_kind, .ref h1_d, .ref h1_a, .ref h1_b, .int v1_count])), (h1_d, .inl (cI, L1, .inl res)), (h1_kind, .inl (cI, L1, .inl f1_kind))]) args s 0 0 A) (F0 m 2 ls []) := by
    intro k
    induction k with
    | zero => intro f1_d x2 x3 H locs ls hf; rw [f_X5_goFurther_2] at hf; cases hf
    | succ m_2 ih =>
      have ih_2 : ∀ (f1_d : (Nat → Int32)) (x2 x3 : Int32) (H : Heap) (locs : List Loc) (ls : Array Slot), (fun f1_d' x2' x3' => f_X5_goFurther_2 n m_2 L1 f1_d' f1_kind v1_count x2' x3') f1_d x2 x3 = some res → va_P D vwCl [(h0, .inr (4, [.ref h0_leaves, .ref h0_place])), (h1, .inr (5, [.ref h1_kind, .ref h1_d, .ref h1_a, .ref h1_b, .int v1_count])), (h1_d, .inl (cI, L1, .inl f1_d)), (h1_kind, .inl (cI, L1, .inl f1_kind))] H → va_D A [(h0, .inr (4, [.ref h0_leaves, .ref h0_place])), (h1, .inr (5, [.ref h1_kind, .ref h1_d, .ref h1_a, .ref h1_b, .int v1_count])), (h1_d, .inl (cI, L1, .inl f1_d)), (h1_kind, .inl (cI, L1, .inl f1_kind))] → va_S A s.heap H locs → lv_has ls 5 [(0, .ref h0), (1, .ref h1), (2, .int x2), (3, .int x3)] → W p l e ({ frames := 1, cells := 0, slots := 0, locals := 23 }) s m args below meth c H locs 0 0 (MQ below (g_Qv D [(cI, .int), (cZ, .boolean)] A [(h0, .inr (4, [.ref h0_leaves, .ref h0_place])), (h1, .inr (5, [.ref h1_kind, .ref h1_d, .ref h1_a, .ref h1_b, .int v1_count])), (h1_d, .inl (cI, L1, .inl res)), (h1_kind, .inl (cI, L1, .inl f1_kind))]) args s 0 0 A) (F0 m 2 ls []) := ih
      intro f1_d x2 x3 H locs ls hf hP hD hS hl
      rw [f_X5_goFurther_2] at hf
      refine lv_iload_n hx hb dX5_goFurther_2 rfl (lv_at hl 3 rfl) ?_
      refine lv_bipush (v := (24 : Int32)) hx hb dX5_goFurther_3 (by decide +kernel) ?_
      refine lv_icmp_ge (tgt := 58) hx hb dX5_goFurther_5 (by decide) (fun c1 => ?_) (fun c1 => ?_)
      · have hf := ite_t hf c1
        have hf := Option.some.inj hf
        subst hf
        exact g_vret hx hb hr hlocks (hP.sub [0, 1, 2, 3] rfl) (hD.sub [0, 1, 2, 3] (by decide) rfl) hK hS dX5_goFurther_58
      · have hf := ite_e hf c1
        refine lv_aload_n hx hb dX5_goFurther_8 rfl (lv_at hl 0 rfl) ?_
        refine lv_aload_n hx hb dX5_goFurther_9 rfl (lv_at hl 1 rfl) ?_
        refine lv_aload_n hx hb dX5_goFurther_10 rfl (lv_at hl 1 rfl) ?_
        refine va_get (D := D) (ci := 5) (v := .ref h1_d) (C := RX6) (T := TX6) (N := 5) hx hb hts iw_X5_goFurther_X6 hown hK hP 1 rfl rfl 1 (by decide) fl_46 (fun _ h9 => h9) rfl dX5_goFurther_11 ?_
        refine lv_iload_n hx hb dX5_goFurther_14 rfl (lv_at hl 2 rfl) ?_
        obtain ⟨i2, hf⟩ := gd_some hf
        refine va_iald hx hb hK hP 2 0 rfl rfl i2 dX5_goFurther_15 ?_
        obtain ⟨u3, g4, hf⟩ := bd_some hf
        refine g_callVi S (c_X5_pastNothing l D cI cZ h0 h1 h1_kind h1_d h1_a h1_b _ L1 f1_kind v1_count n (f1_d (x2).toNatClampNeg) u3 g4) (cwV 2 hts gX5_goFurther_X5_pastNothing rfl rfl rfl (by decide +kernel) ⟨Nat.le_of_ble_eq_true rfl, Nat.le_of_ble_eq_true rfl⟩) hK hP hD hS hA 0 (ci := 4) rfl rfl [1, 3] [0, 2] [(h0, .inr (4, [.ref h0_leaves, .ref h0_place])), (h1_d, .inl (cI, L1, .inl f1_d))] rfl rfl (by decide) (by decide) (by decide) rfl hl.1 rfl (Nat.le_of_ble_eq_true rfl) dX5_goFurther_16 ⟨Nat.le_of_ble_eq_true rfl, Nat.le_of_ble_eq_true rfl⟩ (fun H locs hP hD hS => ?_)
        have hP : va_P D vwCl [(h0, .inr (4, [.ref h0_leaves, .ref h0_place])), (h1_d, .inl (cI, L1, .inl f1_d)), (h1, .inr (5, [.ref h1_kind, .ref h1_d, .ref h1_a, .ref h1_b, .int v1_count])), (h1_kind, .inl (cI, L1, .inl f1_kind))] H := hP
        have hD : va_D A [(h0, .inr (4, [.ref h0_leaves, .ref h0_place])), (h1_d, .inl (cI, L1, .inl f1_d)), (h1, .inr (5, [.ref h1_kind, .ref h1_d, .ref h1_a, .ref h1_b, .int v1_count])), (h1_kind, .inl (cI, L1, .inl f1_kind))] := hD
        refine lv_istore (lv' := [(4, .int u3), (0, .ref h0), (1, .ref h1), (2, .int x2), (3, .int x3)]) hx hb dX5_goFurther_19 hl (by decide) rfl (fun ls hl => ?_)
        refine lv_iload hx hb dX5_goFurther_21 (lv_at hl 0 rfl) ?_
        refine lv_iconst (v := (-1 : Int32)) hx hb dX5_goFurther_23 (by decide) ?_
        refine lv_icmp_eq (tgt := 52) hx hb dX5_goFurther_24 (by decide) (fun c5 => ?_) (fun c5 => ?_)
        · have hf := ite_t hf c5
          refine lv_iinc (v := (x3 + (1 : Int32))) (lv' := [(3, .int (x3 + (1 : Int32))), (4, .int u3), (0, .ref h0), (1, .ref h1), (2, .int x2)]) hx hb dX5_goFurther_52 hl (k := 4) rfl rfl (by decide) rfl (fun ls hl => ?_)
          refine lv_goto (tgt := 2) hx hb dX5_goFurther_55 (by decide) ?_
          exact ih_2 _ _ _ _ _ ls hf (hP.sub [0, 2, 1, 3] rfl) (hD.sub [0, 2, 1, 3] (by decide) rfl) hS (lv_sub hl [2, 3, 4, 0] rfl)
        · have hf := ite_e hf c5
          refine lv_aload_n hx hb dX5_goFurther_27 rfl (lv_at hl 2 rfl) ?_
          refine va_get (D := D) (ci := 5) (v := .ref h1_kind) (C := RX6) (T := TX6) (N := 5) hx hb hts iw_X5_goFurther_X6 hown hK hP 2 rfl rfl 0 (by decide) fl_25 (fun _ h9 => h9) rfl dX5_goFurther_28 ?_
          refine lv_iload hx hb dX5_goFurther_31 (lv_at hl 0 rfl) ?_
          obtain ⟨i6, hf⟩ := gd_some hf
          refine va_iald hx hb hK hP 3 0 rfl rfl i6 dX5_goFurther_33 ?_
          refine lv_bipush (v := (9 : Int32)) hx hb dX5_goFurther_34 (by decide +kernel) ?_
          refine lv_icmp_ne (tgt := 52) hx hb dX5_goFurther_36 (by decide) (fun c7 => ?_) (fun c7 => ?_)
          · have hf := ite_e hf c7
            refine lv_iinc (v := (x3 + (1 : Int32))) (lv' := [(3, .int (x3 + (1 : Int32))), (4, .int u3), (0, .ref h0), (1, .ref h1), (2, .int x2)]) hx hb dX5_goFurther_52 hl (k := 4) rfl rfl (by decide) rfl (fun ls hl => ?_)
            refine lv_goto (tgt := 2) hx hb dX5_goFurther_55 (by decide) ?_
            exact ih_2 _ _ _ _ _ ls hf (hP.sub [0, 2, 1, 3] rfl) (hD.sub [0, 2, 1, 3] (by decide) rfl) hS (lv_sub hl [2, 3, 4, 0] rfl)
          · have hf := ite_t hf c7
            refine lv_aload_n hx hb dX5_goFurther_39 rfl (lv_at hl 2 rfl) ?_
            refine va_get (D := D) (ci := 5) (v := .ref h1_d) (C := RX6) (T := TX6) (N := 5) hx hb hts iw_X5_goFurther_X6 hown hK hP 2 rfl rfl 1 (by decide) fl_46 (fun _ h9 => h9) rfl dX5_goFurther_40 ?_
            refine lv_iload_n hx hb dX5_goFurther_43 rfl (lv_at hl 3 rfl) ?_
            refine lv_aload_n hx hb dX5_goFurther_44 rfl (lv_at hl 2 rfl) ?_
            refine va_get (D := D) (ci := 5) (v := .ref h1_d) (C := RX6) (T := TX6) (N := 5) hx hb hts iw_X5_goFurther_X6 hown hK hP 2 rfl rfl 1 (by decide) fl_46 (fun _ h9 => h9) rfl dX5_goFurther_45 ?_
            refine lv_iload hx hb dX5_goFurther_48 (lv_at hl 0 rfl) ?_
            obtain ⟨i8, hf⟩ := gd_some hf
            refine va_iald hx hb hK hP 1 0 rfl rfl i8 dX5_goFurther_50 ?_
            obtain ⟨i9, hf⟩ := gd_some hf
            refine va_iast hx hb hK hP hD hS 1 0 rfl rfl i9 dX5_goFurther_51 (fun H locs hP hD hS => ?_)
            have hP : va_P D vwCl [(h0, .inr (4, [.ref h0_leaves, .ref h0_place])), (h1_d, .inl (cI, L1, .inl (upd f1_d (x2).toNatClampNeg (f1_d (u3).toNatClampNeg)))), (h1, .inr (5, [.ref h1_kind, .ref h1_d, .ref h1_a, .ref h1_b, .int v1_count])), (h1_kind, .inl (cI, L1, .inl f1_kind))] H := hP
            have hD : va_D A [(h0, .inr (4, [.ref h0_leaves, .ref h0_place])), (h1_d, .inl (cI, L1, .inl (upd f1_d (x2).toNatClampNeg (f1_d (u3).toNatClampNeg)))), (h1, .inr (5, [.ref h1_kind, .ref h1_d, .ref h1_a, .ref h1_b, .int v1_count])), (h1_kind, .inl (cI, L1, .inl f1_kind))] := hD
            refine lv_iinc (v := (x3 + (1 : Int32))) (lv' := [(3, .int (x3 + (1 : Int32))), (4, .int u3), (0, .ref h0), (1, .ref h1), (2, .int x2)]) hx hb dX5_goFurther_52 hl (k := 4) rfl rfl (by decide) rfl (fun ls hl => ?_)
            refine lv_goto (tgt := 2) hx hb dX5_goFurther_55 (by decide) ?_
            exact ih_2 _ _ _ _ _ ls hf (hP.sub [0, 2, 1, 3] rfl) (hD.sub [0, 2, 1, 3] (by decide) rfl) hS (lv_sub hl [2, 3, 4, 0] rfl)
  unfold f_X5_goFurther at hf
  refine lv_iconst (v := (0 : Int32)) hx hb dX5_goFurther_0 (by decide) ?_
  refine lv_istore_n (lv' := [(3, .int (0 : Int32)), (0, .ref h0), (1, .ref h1), (2, .int x2)]) hx hb dX5_goFurther_1 rfl hl (by decide) rfl (fun ls hl => ?_)
  exact hJ_2 n _ _ _ _ _ ls hf (hP.sub [0, 1, 2, 3] rfl) (hD.sub [0, 1, 2, 3] (by decide) rfl) hS (lv_sub hl [1, 2, 3, 0] rfl)

def f_X5_goesToNext (n : Nat) (L1 : Nat) (f1_d : (Nat → Int32)) (f1_kind : (Nat → Int32)) (v1_count : Int32) (x2 : Int32) : Option Int32 := gd x2 L1 (if (f1_kind (x2).toNatClampNeg) = (9 : Int32) then (gd x2 L1 ((f_X5_pastNothing n L1 f1_kind v1_count (f1_d (x2).toNatClampNeg)).bind (fun u5 => (f_X5_pastNothing n L1 f1_kind v1_count (x2 + (1 : Int32))).bind (fun u7 => if u5 = u7 then (some (1 : Int32)) else (some (0 : Int32)))))) else (some (0 : Int32)))
theorem iw_X5_goesToNext_X6 : ∀ w ∈ wsX60, w ∈ wsX5_goesToNext := by decide +kernel
set_option maxHeartbeats 4000000 in
set_option maxRecDepth 100000 in
theorem c_X5_goesToNext (l : Launch) (D : va_G) (cI cZ : ClassId) (h0 h1 h0_leaves h0_place h1_kind h1_d h1_a h1_b : Nat) (sz : Nat) (L1 : Nat) (f1_d f1_kind : Nat → Int32) (v1_count : Int32) (n : Nat) (x2 : Int32) (res : Int32) (hf : f_X5_goesToNext n L1 f1_d f1_kind v1_count x2 = some res) : Ct_i l yX5_goesToNext wsX5_goesToNext ({ frames := 1, cells := 0, slots := 0, locals := 23 }) D [(cI, .int), (cZ, .boolean)] [.ref h0, .ref h1, .int x2] sz [(h0, .inr (4, [.ref h0_leaves, .ref h0_place])), (h1, .inr (5, [.ref h1_kind, .ref h1_d, .ref h1_a, .ref h1_b, .int v1_count])), (h1_d, .inl (cI, L1, .inl f1_d)), (h1_kind, .inl (cI, L1, .inl f1_kind))] res [(h0, .inr (4, [.ref h0_leaves, .ref h0_place])), (h1, .inr (5, [.ref h1_kind, .ref h1_d, .ref h1_a, .ref h1_b, .int v1_count])), (h1_d, .inl (cI, L1, .inl f1_d)), (h1_kind, .inl (cI, L1, .inl f1_kind))] := by
  refine g_of (cc := cX5_goesToNext) (maxL := 3) (ret := some .boolean) (QQ := (fun A => g_Qi D [(cI, .int), (cZ, .boolean)] A res [(h0, .inr (4, [.ref h0_leaves, .ref h0_place])), (h1, .inr (5, [.ref h1_kind, .ref h1_d, .ref h1_a, .ref h1_b, .int v1_count])), (h1_d, .inl (cI, L1, .inl f1_d)), (h1_kind, .inl (cI, L1, .inl f1_kind))])) (by decide) rfl (Nat.le_of_ble_eq_true rfl) ?_
  intro p e s m args below meth c A ls S hr hlocks hA hP hK hD hl
  show W p l e ({ frames := 1, cells := 0, slots := 0, locals := 23 }) s m args below meth c s.heap [] 0 0 (MQ below (g_Qi D [(cI, .int), (cZ, .boolean)] A res [(h0, .inr (4, [.ref h0_leaves, .ref h0_place])), (h1, .inr (5, [.ref h1_kind, .ref h1_d, .ref h1_a, .ref h1_b, .int v1_count])), (h1_d, .inl (cI, L1, .inl f1_d)), (h1_kind, .inl (cI, L1, .inl f1_kind))]) args s 0 0 A) (F0 m 0 ls [])
  have hx := S.1
  have hb := S.2.1
  have hml := S.2.2.1
  have hown := S.2.2.2.1
  have hts := S.2.2.2.2
  have fl_25 := hts (.fieldLink RX5 25 "PassPipeline$Program" "kind" "[I") (by decide +kernel)
  have fl_46 := hts (.fieldLink RX5 46 "PassPipeline$Program" "d" "[I") (by decide +kernel)
  have hS : va_S A s.heap s.heap [] := va_S.rf
  have hl : lv_has ls 3 [(0, .ref h0), (1, .ref h1), (2, .int x2)] := hl
  unfold f_X5_goesToNext at hf
  refine lv_aload_n hx hb dX5_goesToNext_0 rfl (lv_at hl 1 rfl) ?_
  refine va_get (D := D) (ci := 5) (v := .ref h1_kind) (C := RX6) (T := TX6) (N := 5) hx hb hts iw_X5_goesToNext_X6 hown hK hP 1 rfl rfl 0 (by decide) fl_25 (fun _ h9 => h9) rfl dX5_goesToNext_1 ?_
  refine lv_iload_n hx hb dX5_goesToNext_4 rfl (lv_at hl 2 rfl) ?_
  obtain ⟨i1, hf⟩ := gd_some hf
  refine va_iald hx hb hK hP 3 0 rfl rfl i1 dX5_goesToNext_5 ?_
  refine lv_bipush (v := (9 : Int32)) hx hb dX5_goesToNext_6 (by decide +kernel) ?_
  refine lv_icmp_ne (tgt := 37) hx hb dX5_goesToNext_8 (by decide) (fun c2 => ?_) (fun c2 => ?_)
  · have hf := ite_e hf c2
    refine lv_iconst (v := (0 : Int32)) hx hb dX5_goesToNext_37 (by decide) ?_
    have z3 : (0 : Int32) = 0 ∨ (0 : Int32) = 1 := by decide
    have hf := Option.some.inj hf
    subst hf
    exact g_zret hx hb hr hlocks (hP.sub [0, 1, 2, 3] rfl) (hD.sub [0, 1, 2, 3] (by decide) rfl) hK hS rfl z3 dX5_goesToNext_38
  · have hf := ite_t hf c2
    refine lv_aload_n hx hb dX5_goesToNext_11 rfl (lv_at hl 0 rfl) ?_
    refine lv_aload_n hx hb dX5_goesToNext_12 rfl (lv_at hl 1 rfl) ?_
    refine lv_aload_n hx hb dX5_goesToNext_13 rfl (lv_at hl 1 rfl) ?_
    refine va_get (D := D) (ci := 5) (v := .ref h1_d) (C := RX6) (T := TX6) (N := 5) hx hb hts iw_X5_goesToNext_X6 hown hK hP 1 rfl rfl 1 (by decide) fl_46 (fun _ h9 => h9) rfl dX5_goesToNext_14 ?_
    refine lv_iload_n hx hb dX5_goesToNext_17 rfl (lv_at hl 2 rfl) ?_
    obtain ⟨i4, hf⟩ := gd_some hf
    refine va_iald hx hb hK hP 2 0 rfl rfl i4 dX5_goesToNext_18 ?_
    obtain ⟨u5, g6, hf⟩ := bd_some hf
    refine g_callVi S (c_X5_pastNothing l D cI cZ h0 h1 h1_kind h1_d h1_a h1_b _ L1 f1_kind v1_count n (f1_d (x2).toNatClampNeg) u5 g6) (cwV 2 hts gX5_goesToNext_X5_pastNothing rfl rfl rfl (by decide +kernel) ⟨Nat.le_of_ble_eq_true rfl, Nat.le_of_ble_eq_true rfl⟩) hK hP hD hS hA 0 (ci := 4) rfl rfl [1, 3] [0, 2] [(h0, .inr (4, [.ref h0_leaves, .ref h0_place])), (h1_d, .inl (cI, L1, .inl f1_d))] rfl rfl (by decide) (by decide) (by decide) rfl hl.1 rfl (Nat.le_of_ble_eq_true rfl) dX5_goesToNext_19 ⟨Nat.le_of_ble_eq_true rfl, Nat.le_of_ble_eq_true rfl⟩ (fun H locs hP hD hS => ?_)
    have hP : va_P D vwCl [(h0, .inr (4, [.ref h0_leaves, .ref h0_place])), (h1_d, .inl (cI, L1, .inl f1_d)), (h1, .inr (5, [.ref h1_kind, .ref h1_d, .ref h1_a, .ref h1_b, .int v1_count])), (h1_kind, .inl (cI, L1, .inl f1_kind))] H := hP
    have hD : va_D A [(h0, .inr (4, [.ref h0_leaves, .ref h0_place])), (h1_d, .inl (cI, L1, .inl f1_d)), (h1, .inr (5, [.ref h1_kind, .ref h1_d, .ref h1_a, .ref h1_b, .int v1_count])), (h1_kind, .inl (cI, L1, .inl f1_kind))] := hD
    refine lv_aload_n hx hb dX5_goesToNext_22 rfl (lv_at hl 0 rfl) ?_
    refine lv_aload_n hx hb dX5_goesToNext_23 rfl (lv_at hl 1 rfl) ?_
    refine lv_iload_n hx hb dX5_goesToNext_24 rfl (lv_at hl 2 rfl) ?_
    refine lv_iconst (v := (1 : Int32)) hx hb dX5_goesToNext_25 (by decide) ?_
    refine lv_iadd hx hb dX5_goesToNext_26 ?_
    obtain ⟨u7, g8, hf⟩ := bd_some hf
    refine g_callVi S (c_X5_pastNothing l D cI cZ h0 h1 h1_kind h1_d h1_a h1_b _ L1 f1_kind v1_count n (x2 + (1 : Int32)) u7 g8) (cwV 2 hts gX5_goesToNext_X5_pastNothing rfl rfl rfl (by decide +kernel) ⟨Nat.le_of_ble_eq_true rfl, Nat.le_of_ble_eq_true rfl⟩) hK hP hD hS hA 0 (ci := 4) rfl rfl [2, 3] [0, 1] [(h0, .inr (4, [.ref h0_leaves, .ref h0_place])), (h1_d, .inl (cI, L1, .inl f1_d))] rfl rfl (by decide) (by decide) (by decide) rfl hl.1 rfl (Nat.le_of_ble_eq_true rfl) dX5_goesToNext_27 ⟨Nat.le_of_ble_eq_true rfl, Nat.le_of_ble_eq_true rfl⟩ (fun H locs hP hD hS => ?_)
    have hP : va_P D vwCl [(h0, .inr (4, [.ref h0_leaves, .ref h0_place])), (h1_d, .inl (cI, L1, .inl f1_d)), (h1, .inr (5, [.ref h1_kind, .ref h1_d, .ref h1_a, .ref h1_b, .int v1_count])), (h1_kind, .inl (cI, L1, .inl f1_kind))] H := hP
    have hD : va_D A [(h0, .inr (4, [.ref h0_leaves, .ref h0_place])), (h1_d, .inl (cI, L1, .inl f1_d)), (h1, .inr (5, [.ref h1_kind, .ref h1_d, .ref h1_a, .ref h1_b, .int v1_count])), (h1_kind, .inl (cI, L1, .inl f1_kind))] := hD
    refine lv_icmp_ne (tgt := 37) hx hb dX5_goesToNext_30 (by decide) (fun c9 => ?_) (fun c9 => ?_)
    · have hf := ite_e hf c9
      refine lv_iconst (v := (0 : Int32)) hx hb dX5_goesToNext_37 (by decide) ?_
      have z10 : (0 : Int32) = 0 ∨ (0 : Int32) = 1 := by decide
      have hf := Option.some.inj hf
      subst hf
      exact g_zret hx hb hr hlocks (hP.sub [0, 2, 1, 3] rfl) (hD.sub [0, 2, 1, 3] (by decide) rfl) hK hS rfl z10 dX5_goesToNext_38
    · have hf := ite_t hf c9
      refine lv_iconst (v := (1 : Int32)) hx hb dX5_goesToNext_33 (by decide) ?_
      refine lv_goto (tgt := 38) hx hb dX5_goesToNext_34 (by decide) ?_
      have z11 : (1 : Int32) = 0 ∨ (1 : Int32) = 1 := by decide
      have hf := Option.some.inj hf
      subst hf
      exact g_zret hx hb hr hlocks (hP.sub [0, 2, 1, 3] rfl) (hD.sub [0, 2, 1, 3] (by decide) rfl) hK hS rfl z11 dX5_goesToNext_38

def f_X5_choose_40 (n : Nat) (k_4 : (Nat → Int32) → (Nat → Int32) → Int32 → Int32 → Option ((Nat → Int32) × (Nat → Int32))) (L1 : Nat) (f0_leaves : (Nat → Int32)) (f0_place : (Nat → Int32)) (f1_d : (Nat → Int32)) (f1_kind : (Nat → Int32)) (v1_count : Int32) (x2 x3 t1 t2 : Int32) : Option ((Nat → Int32) × (Nat → Int32)) := gd t1 24 (gd x3 25 (gd x3 24 (if ((upd f0_leaves (t1).toNatClampNeg (vp_nar .boolean t2)) (x3).toNatClampNeg) = 0 then (k_4 (upd f0_leaves (t1).toNatClampNeg (vp_nar .boolean t2)) (upd f0_place (x3).toNatClampNeg x2) (x2 + (1 : Int32)) (x3 + (1 : Int32))) else (k_4 (upd f0_leaves (t1).toNatClampNeg (vp_nar .boolean t2)) (upd f0_place (x3).toNatClampNeg x2) x2 (x3 + (1 : Int32))))))
def f_X5_choose_4 (n : Nat)  : Nat → Nat → (Nat → Int32) → (Nat → Int32) → (Nat → Int32) → (Nat → Int32) → Int32 → Int32 → Int32 → Option ((Nat → Int32) × (Nat → Int32))
  | 0, _, _, _, _, _, _, _, _ => none
  | k + 1, L1, f0_leaves, f0_place, f1_d, f1_kind, v1_count, x2, x3 => if v1_count ≤ x3 then (gd v1_count 25 (some (f0_leaves, (upd f0_place (v1_count).toNatClampNeg x2)))) else (gd x3 L1 (if (f1_kind (x3).toNatClampNeg) = 0 then (f_X5_choose_40 n (fun f0_leaves' f0_place' x2' x3' => f_X5_choose_4 n k L1 f0_leaves' f0_place' f1_d f1_kind v1_count x2' x3') L1 f0_leaves f0_place f1_d f1_kind v1_count x2 x3 x3 (1 : Int32)) else ((f_X5_goesToNext n L1 f1_d f1_kind v1_count x3).bind (fun u9 => if u9 = 0 then (f_X5_choose_40 n (fun f0_leaves' f0_place' x2' x3' => f_X5_choose_4 n k L1 f0_leaves' f0_place' f1_d f1_kind v1_count x2' x3') L1 f0_leaves f0_place f1_d f1_kind v1_count x2 x3 x3 (0 : Int32)) else (f_X5_choose_40 n (fun f0_leaves' f0_place' x2' x3' => f_X5_choose_4 n k L1 f0_leaves' f0_place' f1_d f1_kind v1_count x2' x3') L1 f0_leaves f0_place f1_d f1_kind v1_count x2 x3 x3 (1 : Int32))))))
def f_X5_choose (n : Nat) (L1 : Nat) (f0_leaves : (Nat → Int32)) (f0_place : (Nat → Int32)) (f1_d : (Nat → Int32)) (f1_kind : (Nat → Int32)) (v1_count : Int32)  : Option ((Nat → Int32) × (Nat → Int32)) := f_X5_choose_4 n n L1 f0_leaves f0_place f1_d f1_kind v1_count (0 : Int32) (0 : Int32)
theorem iw_X5_choose_X5 : ∀ w ∈ wsX50, w ∈ wsX5_choose := by decide +kernel
theorem iw_X5_choose_X6 : ∀ w ∈ wsX60, w ∈ wsX5_choose := by decide +kernel
set_option maxHeartbeats 4000000 in
set_option maxRecDepth 100000 in
theorem c_X5_choose (l : Launch) (D : va_G) (cI cZ : ClassId) (h0 h1 h0_leaves h0_place h1_kind h1_d h1_a h1_b : Nat) (sz : Nat) (L1 : Nat) (f0_leaves f0_place f1_d f1_kind : Nat → Int32) (v1_count : Int32) (n : Nat)  (res : ((Nat → Int32) × (Nat → Int32))) (hf : f_X5_choose n L1 f0_leaves f0_place f1_d f1_kind v1_count = some res) : Ct_v l yX5_choose wsX5_choose ({ frames := 2, cells := 0, slots := 0, locals := 45 }) D [(cI, .int), (cZ, .boolean)] [.ref h0, .ref h1] sz [(h0, .inr (4, [.ref h0_leaves, .ref h0_place])), (h0_leaves, .inl (cZ, 24, .inl f0_leaves)), (h0_place, .inl (cI, 25, .inl f0_place)), (h1, .inr (5, [.ref h1_kind, .ref h1_d, .ref h1_a, .ref h1_b, .int v1_count])), (h1_d, .inl (cI, L1, .inl f1_d)), (h1_kind, .inl (cI, L1, .inl f1_kind))] [(h0, .inr (4, [.ref h0_leaves, .ref h0_place])), (h0_leaves, .inl (cZ, 24, .inl res.1)), (h0_place, .inl (cI, 25, .inl res.2)), (h1, .inr (5, [.ref h1_kind, .ref h1_d, .ref h1_a, .ref h1_b, .int v1_count])), (h1_d, .inl (cI, L1, .inl f1_d)), (h1_kind, .inl (cI, L1, .inl f1_kind))] := by
  refine g_of (cc := cX5_choose) (maxL := 4) (ret := none) (QQ := (fun A => g_Qv D [(cI, .int), (cZ, .boolean)] A [(h0, .inr (4, [.ref h0_leaves, .ref h0_place])), (h0_leaves, .inl (cZ, 24, .inl res.1)), (h0_place, .inl (cI, 25, .inl res.2)), (h1, .inr (5, [.ref h1_kind, .ref h1_d, .ref h1_a, .ref h1_b, .int v1_count])), (h1_d, .inl (cI, L1, .inl f1_d)), (h1_kind, .inl (cI, L1, .inl f1_kind))])) (by decide) rfl (Nat.le_of_ble_eq_true rfl) ?_
  intro p e s m args below meth c A ls S hr hlocks hA hP hK hD hl
  show W p l e ({ frames := 2, cells := 0, slots := 0, locals := 45 }) s m args below meth c s.heap [] 0 0 (MQ below (g_Qv D [(cI, .int), (cZ, .boolean)] A [(h0, .inr (4, [.ref h0_leaves, .ref h0_place])), (h0_leaves, .inl (cZ, 24, .inl res.1)), (h0_place, .inl (cI, 25, .inl res.2)), (h1, .inr (5, [.ref h1_kind, .ref h1_d, .ref h1_a, .ref h1_b, .int v1_count])), (h1_d, .inl (cI, L1, .inl f1_d)), (h1_kind, .inl (cI, L1, .inl f1_kind))]) args s 0 0 A) (F0 m 0 ls [])
  have hx := S.1
  have hb := S.2.1
  have hml := S.2.2.1
  have hown := S.2.2.2.1
  have hts := S.2.2.2.2
  have fl_15 := hts (.fieldLink RX5 15 "PassPipeline$Packing" "place" "[I") (by decide +kernel)
  have fl_19 := hts (.fieldLink RX5 19 "PassPipeline$Program" "count" "I") (by decide +kernel)
  have fl_25 := hts (.fieldLink RX5 25 "PassPipeline$Program" "kind" "[I") (by decide +kernel)
  have fl_9 := hts (.fieldLink RX5 9 "PassPipeline$Packing" "leaves" "[Z") (by decide +kernel)
  have hS : va_S A s.heap s.heap [] := va_S.rf
  have hl : lv_has ls 4 [(0, .ref h0), (1, .ref h1)] := hl
  have hJ_4 : ∀ (k : Nat) (f0_leaves : (Nat → Int32)) (f0_place : (Nat → Int32)) (x2 x3 : Int32) (H : Heap) (locs : List Loc) (ls : Array Slot), f_X5_choose_4 n k L1 f0_leaves f0_place f1_d f1_kind v1_count x2 x3 = some res → va_P D vwCl [(h0, .inr (4, [.ref h0_leaves, .ref h0_place])), (h0_leaves, .inl (cZ, 24, .inl f0_leaves)), (h0_place, .inl (cI, 25, .inl f0_place)), (h1, .inr (5, [.ref h1_kind, .ref h1_d, .ref h1_a, .ref h1_b, .int v1_count])), (h1_d, .inl (cI, L1, .inl f1_d)), (h1_kind, .inl (cI, L1, .inl f1_kind))] H → va_D A [(h0, .inr (4, [.ref h0_leaves, .ref h0_place])), (h0_leaves, .inl (cZ, 24, .inl f0_leaves)), (h0_place, .inl (cI, 25, .inl f0_place)), (h1, .inr (5, [.ref h1_kind, .ref h1_d, .ref h1_a, .ref h1_b, .int v1_count])), (h1_d, .inl (cI, L1, .inl f1_d)), (h1_kind, .inl (cI, L1, .inl f1_kind))] → va_S A s.heap H locs → lv_has ls 4 [(0, .ref h0), (1, .ref h1), (2, .int x2), (3, .int x3)] → W p l e ({ frames := 2, cells := 0, slots := 0, locals := 45 }) s m args below meth c H locs 0 0 (MQ below (g_Qv D [(cI, .int), (cZ, .boolean)] A [(h0, .inr (4, [.ref h0_leaves, .ref h0_place])), (h0_leaves, .inl (cZ, 24, .inl res.1)), (h0_place, .inl (cI, 25, .inl res.2)), (h1, .inr (5, [.ref h1_kind, .ref h1_d, .ref h1_a, .ref h1_b, .int v1_count])), (h1_d, .inl (cI, L1, .inl f1_d)), (h1_kind, .inl (cI, L1, .inl f1_kind))]) args s 0 0 A) (F0 m 4 ls []) := by
    intro k
    induction k with
    | zero => intro f0_leaves f0_place x2 x3 H locs ls hf; rw [f_X5_choose_4] at hf; cases hf
    | succ m_4 ih =>
      have ih_4 : ∀ (f0_leaves : (Nat → Int32)) (f0_place : (Nat → Int32)) (x2 x3 : Int32) (H : Heap) (locs : List Loc) (ls : Array Slot), (fun f0_leaves' f0_place' x2' x3' => f_X5_choose_4 n m_4 L1 f0_leaves' f0_place' f1_d f1_kind v1_count x2' x3') f0_leaves f0_place x2 x3 = some res → va_P D vwCl [(h0, .inr (4, [.ref h0_leaves, .ref h0_place])), (h0_leaves, .inl (cZ, 24, .inl f0_leaves)), (h0_place, .inl (cI, 25, .inl f0_place)), (h1, .inr (5, [.ref h1_kind, .ref h1_d, .ref h1_a, .ref h1_b, .int v1_count])), (h1_d, .inl (cI, L1, .inl f1_d)), (h1_kind, .inl (cI, L1, .inl f1_kind))] H → va_D A [(h0, .inr (4, [.ref h0_leaves, .ref h0_place])), (h0_leaves, .inl (cZ, 24, .inl f0_leaves)), (h0_place, .inl (cI, 25, .inl f0_place)), (h1, .inr (5, [.ref h1_kind, .ref h1_d, .ref h1_a, .ref h1_b, .int v1_count])), (h1_d, .inl (cI, L1, .inl f1_d)), (h1_kind, .inl (cI, L1, .inl f1_kind))] → va_S A s.heap H locs → lv_has ls 4 [(0, .ref h0), (1, .ref h1), (2, .int x2), (3, .int x3)] → W p l e ({ frames := 2, cells := 0, slots := 0, locals := 45 }) s m args below meth c H locs 0 0 (MQ below (g_Qv D [(cI, .int), (cZ, .boolean)] A [(h0, .inr (4, [.ref h0_leaves, .ref h0_place])), (h0_leaves, .inl (cZ, 24, .inl res.1)), (h0_place, .inl (cI, 25, .inl res.2)), (h1, .inr (5, [.ref h1_kind, .ref h1_d, .ref h1_a, .ref h1_b, .int v1_count])), (h1_d, .inl (cI, L1, .inl f1_d)), (h1_kind, .inl (cI, L1, .inl f1_kind))]) args s 0 0 A) (F0 m 4 ls []) := ih
      have hJ_40 : ∀ (f0_leaves : (Nat → Int32)) (f0_place : (Nat → Int32)) (x2 x3 t1 t2 : Int32) (H : Heap) (locs : List Loc) (ls : Array Slot), f_X5_choose_40 n (fun f0_leaves' f0_place' x2' x3' => f_X5_choose_4 n m_4 L1 f0_leaves' f0_place' f1_d f1_kind v1_count x2' x3') L1 f0_leaves f0_place f1_d f1_kind v1_count x2 x3 t1 t2 = some res → va_P D vwCl [(h0, .inr (4, [.ref h0_leaves, .ref h0_place])), (h0_leaves, .inl (cZ, 24, .inl f0_leaves)), (h0_place, .inl (cI, 25, .inl f0_place)), (h1, .inr (5, [.ref h1_kind, .ref h1_d, .ref h1_a, .ref h1_b, .int v1_count])), (h1_d, .inl (cI, L1, .inl f1_d)), (h1_kind, .inl (cI, L1, .inl f1_kind))] H → va_D A [(h0, .inr (4, [.ref h0_leaves, .ref h0_place])), (h0_leaves, .inl (cZ, 24, .inl f0_leaves)), (h0_place, .inl (cI, 25, .inl f0_place)), (h1, .inr (5, [.ref h1_kind, .ref h1_d, .ref h1_a, .ref h1_b, .int v1_count])), (h1_d, .inl (cI, L1, .inl f1_d)), (h1_kind, .inl (cI, L1, .inl f1_kind))] → va_S A s.heap H locs → lv_has ls 4 [(0, .ref h0), (1, .ref h1), (2, .int x2), (3, .int x3)] → W p l e ({ frames := 2, cells := 0, slots := 0, locals := 45 }) s m args below meth c H locs 0 0 (MQ below (g_Qv D [(cI, .int), (cZ, .boolean)] A [(h0, .inr (4, [.ref h0_leaves, .ref h0_place])), (h0_leaves, .inl (cZ, 24, .inl res.1)), (h0_place, .inl (cI, 25, .inl res.2)), (h1, .inr (5, [.ref h1_kind, .ref h1_d, .ref h1_a, .ref h1_b, .int v1_count])), (h1_d, .inl (cI, L1, .inl f1_d)), (h1_kind, .inl (cI, L1, .inl f1_kind))]) args s 0 0 A) (F0 m 40 ls [.int t2, .int t1, .ref h0_leaves]) := by
        intro f0_leaves f0_place x2 x3 t1 t2 H locs ls hf hP hD hS hl
        unfold f_X5_choose_40 at hf
        obtain ⟨i1, hf⟩ := gd_some hf
        refine va_zast hx hb hK hP hD hS 1 1 rfl rfl i1 dX5_choose_40 (fun H locs hP hD hS => ?_)
        have hP : va_P D vwCl [(h0, .inr (4, [.ref h0_leaves, .ref h0_place])), (h0_leaves, .inl (cZ, 24, .inl (upd f0_leaves (t1).toNatClampNeg (vp_nar .boolean t2)))), (h0_place, .inl (cI, 25, .inl f0_place)), (h1, .inr (5, [.ref h1_kind, .ref h1_d, .ref h1_a, .ref h1_b, .int v1_count])), (h1_d, .inl (cI, L1, .inl f1_d)), (h1_kind, .inl (cI, L1, .inl f1_kind))] H := hP
        have hD : va_D A [(h0, .inr (4, [.ref h0_leaves, .ref h0_place])), (h0_leaves, .inl (cZ, 24, .inl (upd f0_leaves (t1).toNatClampNeg (vp_nar .boolean t2)))), (h0_place, .inl (cI, 25, .inl f0_place)), (h1, .inr (5, [.ref h1_kind, .ref h1_d, .ref h1_a, .ref h1_b, .int v1_count])), (h1_d, .inl (cI, L1, .inl f1_d)), (h1_kind, .inl (cI, L1, .inl f1_kind))] := hD
        refine lv_aload_n hx hb dX5_choose_41 rfl (lv_at hl 0 rfl) ?_
        refine va_get (D := D) (ci := 4) (v := .ref h0_place) (C := RX5) (T := TX5) (N := 2) hx hb hts iw_X5_choose_X5 hown hK hP 0 rfl rfl 1 (by decide) fl_15 (fun _ h9 => h9) rfl dX5_choose_42 ?_
        refine lv_iload_n hx hb dX5_choose_45 rfl (lv_at hl 3 rfl) ?_
        refine lv_iload_n hx hb dX5_choose_46 rfl (lv_at hl 2 rfl) ?_
        obtain ⟨i2, hf⟩ := gd_some hf
        refine va_iast hx hb hK hP hD hS 2 0 rfl rfl i2 dX5_choose_47 (fun H locs hP hD hS => ?_)
        have hP : va_P D vwCl [(h0, .inr (4, [.ref h0_leaves, .ref h0_place])), (h0_leaves, .inl (cZ, 24, .inl (upd f0_leaves (t1).toNatClampNeg (vp_nar .boolean t2)))), (h0_place, .inl (cI, 25, .inl (upd f0_place (x3).toNatClampNeg x2))), (h1, .inr (5, [.ref h1_kind, .ref h1_d, .ref h1_a, .ref h1_b, .int v1_count])), (h1_d, .inl (cI, L1, .inl f1_d)), (h1_kind, .inl (cI, L1, .inl f1_kind))] H := hP
        have hD : va_D A [(h0, .inr (4, [.ref h0_leaves, .ref h0_place])), (h0_leaves, .inl (cZ, 24, .inl (upd f0_leaves (t1).toNatClampNeg (vp_nar .boolean t2)))), (h0_place, .inl (cI, 25, .inl (upd f0_place (x3).toNatClampNeg x2))), (h1, .inr (5, [.ref h1_kind, .ref h1_d, .ref h1_a, .ref h1_b, .int v1_count])), (h1_d, .inl (cI, L1, .inl f1_d)), (h1_kind, .inl (cI, L1, .inl f1_kind))] := hD
        refine lv_aload_n hx hb dX5_choose_48 rfl (lv_at hl 0 rfl) ?_
        refine va_get (D := D) (ci := 4) (v := .ref h0_leaves) (C := RX5) (T := TX5) (N := 2) hx hb hts iw_X5_choose_X5 hown hK hP 0 rfl rfl 0 (by decide) fl_9 (fun _ h9 => h9) rfl dX5_choose_49 ?_
        refine lv_iload_n hx hb dX5_choose_52 rfl (lv_at hl 3 rfl) ?_
        obtain ⟨i3, hf⟩ := gd_some hf
        refine va_zald hx hb hK hP 1 1 rfl rfl i3 dX5_choose_53 ?_
        refine lv_if_ne (tgt := 60) hx hb dX5_choose_54 (by decide) (fun c4 => ?_) (fun c4 => ?_)
        · have hf := ite_e hf c4
          refine lv_iinc (v := (x3 + (1 : Int32))) (lv' := [(3, .int (x3 + (1 : Int32))), (0, .ref h0), (1, .ref h1), (2, .int x2)]) hx hb dX5_choose_60 hl (k := 3) rfl rfl (by decide) rfl (fun ls hl => ?_)
          refine lv_goto (tgt := 4) hx hb dX5_choose_63 (by decide) ?_
          exact ih_4 _ _ _ _ _ _ ls hf (hP.sub [0, 1, 2, 3, 4, 5] rfl) (hD.sub [0, 1, 2, 3, 4, 5] (by decide) rfl) hS (lv_sub hl [1, 2, 3, 0] rfl)
        · have hf := ite_t hf c4
          refine lv_iinc (v := (x2 + (1 : Int32))) (lv' := [(2, .int (x2 + (1 : Int32))), (0, .ref h0), (1, .ref h1), (3, .int x3)]) hx hb dX5_choose_57 hl (k := 2) rfl rfl (by decide) rfl (fun ls hl => ?_)
          refine lv_iinc (v := (x3 + (1 : Int32))) (lv' := [(3, .int (x3 + (1 : Int32))), (2, .int (x2 + (1 : Int32))), (0, .ref h0), (1, .ref h1)]) hx hb dX5_choose_60 hl (k := 3) rfl rfl (by decide) rfl (fun ls hl => ?_)
          refine lv_goto (tgt := 4) hx hb dX5_choose_63 (by decide) ?_
          exact ih_4 _ _ _ _ _ _ ls hf (hP.sub [0, 1, 2, 3, 4, 5] rfl) (hD.sub [0, 1, 2, 3, 4, 5] (by decide) rfl) hS (lv_sub hl [2, 3, 1, 0] rfl)
      intro f0_leaves f0_place x2 x3 H locs ls hf hP hD hS hl
      rw [f_X5_choose_4] at hf
      refine lv_iload_n hx hb dX5_choose_4 rfl (lv_at hl 3 rfl) ?_
      refine lv_aload_n hx hb dX5_choose_5 rfl (lv_at hl 1 rfl) ?_
      refine va_get (D := D) (ci := 5) (v := .int v1_count) (C := RX6) (T := TX6) (N := 5) hx hb hts iw_X5_choose_X6 hown hK hP 3 rfl rfl 4 (by decide) fl_19 (fun _ h9 => h9) rfl dX5_choose_6 ?_
      refine lv_icmp_ge (tgt := 66) hx hb dX5_choose_9 (by decide) (fun c5 => ?_) (fun c5 => ?_)
      · have hf := ite_t hf c5
        refine lv_aload_n hx hb dX5_choose_66 rfl (lv_at hl 0 rfl) ?_
        refine va_get (D := D) (ci := 4) (v := .ref h0_place) (C := RX5) (T := TX5) (N := 2) hx hb hts iw_X5_choose_X5 hown hK hP 0 rfl rfl 1 (by decide) fl_15 (fun _ h9 => h9) rfl dX5_choose_67 ?_
        refine lv_aload_n hx hb dX5_choose_70 rfl (lv_at hl 1 rfl) ?_
        refine va_get (D := D) (ci := 5) (v := .int v1_count) (C := RX6) (T := TX6) (N := 5) hx hb hts iw_X5_choose_X6 hown hK hP 3 rfl rfl 4 (by decide) fl_19 (fun _ h9 => h9) rfl dX5_choose_71 ?_
        refine lv_iload_n hx hb dX5_choose_74 rfl (lv_at hl 2 rfl) ?_
        obtain ⟨i6, hf⟩ := gd_some hf
        refine va_iast hx hb hK hP hD hS 2 0 rfl rfl i6 dX5_choose_75 (fun H locs hP hD hS => ?_)
        have hP : va_P D vwCl [(h0, .inr (4, [.ref h0_leaves, .ref h0_place])), (h0_leaves, .inl (cZ, 24, .inl f0_leaves)), (h0_place, .inl (cI, 25, .inl (upd f0_place (v1_count).toNatClampNeg x2))), (h1, .inr (5, [.ref h1_kind, .ref h1_d, .ref h1_a, .ref h1_b, .int v1_count])), (h1_d, .inl (cI, L1, .inl f1_d)), (h1_kind, .inl (cI, L1, .inl f1_kind))] H := hP
        have hD : va_D A [(h0, .inr (4, [.ref h0_leaves, .ref h0_place])), (h0_leaves, .inl (cZ, 24, .inl f0_leaves)), (h0_place, .inl (cI, 25, .inl (upd f0_place (v1_count).toNatClampNeg x2))), (h1, .inr (5, [.ref h1_kind, .ref h1_d, .ref h1_a, .ref h1_b, .int v1_count])), (h1_d, .inl (cI, L1, .inl f1_d)), (h1_kind, .inl (cI, L1, .inl f1_kind))] := hD
        have hf := Option.some.inj hf
        subst hf
        exact g_vret hx hb hr hlocks (hP.sub [0, 1, 2, 3, 4, 5] rfl) (hD.sub [0, 1, 2, 3, 4, 5] (by decide) rfl) hK hS dX5_choose_76
      · have hf := ite_e hf c5
        refine lv_aload_n hx hb dX5_choose_12 rfl (lv_at hl 0 rfl) ?_
        refine va_get (D := D) (ci := 4) (v := .ref h0_leaves) (C := RX5) (T := TX5) (N := 2) hx hb hts iw_X5_choose_X5 hown hK hP 0 rfl rfl 0 (by decide) fl_9 (fun _ h9 => h9) rfl dX5_choose_13 ?_
        refine lv_iload_n hx hb dX5_choose_16 rfl (lv_at hl 3 rfl) ?_
        refine lv_aload_n hx hb dX5_choose_17 rfl (lv_at hl 1 rfl) ?_
        refine va_get (D := D) (ci := 5) (v := .ref h1_kind) (C := RX6) (T := TX6) (N := 5) hx hb hts iw_X5_choose_X6 hown hK hP 3 rfl rfl 0 (by decide) fl_25 (fun _ h9 => h9) rfl dX5_choose_18 ?_
        refine lv_iload_n hx hb dX5_choose_21 rfl (lv_at hl 3 rfl) ?_
        obtain ⟨i7, hf⟩ := gd_some hf
        refine va_iald hx hb hK hP 5 0 rfl rfl i7 dX5_choose_22 ?_
        refine lv_if_eq (tgt := 35) hx hb dX5_choose_23 (by decide) (fun c8 => ?_) (fun c8 => ?_)
        · have hf := ite_t hf c8
          refine lv_iconst (v := (1 : Int32)) hx hb dX5_choose_35 (by decide) ?_
          refine lv_goto (tgt := 40) hx hb dX5_choose_36 (by decide) ?_
          exact hJ_40 _ _ _ _ _ _ _ _ ls hf (hP.sub [0, 1, 2, 3, 4, 5] rfl) (hD.sub [0, 1, 2, 3, 4, 5] (by decide) rfl) hS (lv_sub hl [0, 1, 2, 3] rfl)
        · have hf := ite_e hf c8
          refine lv_aload_n hx hb dX5_choose_26 rfl (lv_at hl 0 rfl) ?_
          refine lv_aload_n hx hb dX5_choose_27 rfl (lv_at hl 1 rfl) ?_
          refine lv_iload_n hx hb dX5_choose_28 rfl (lv_at hl 3 rfl) ?_
          obtain ⟨u9, g10, hf⟩ := bd_some hf
          refine g_callVi S (c_X5_goesToNext l D cI cZ h0 h1 h0_leaves h0_place h1_kind h1_d h1_a h1_b _ L1 f1_d f1_kind v1_count n x3 u9 g10) (cwV 2 hts gX5_choose_X5_goesToNext rfl rfl rfl (by decide +kernel) ⟨Nat.le_of_ble_eq_true rfl, Nat.le_of_ble_eq_true rfl⟩) hK hP hD hS hA 0 (ci := 4) rfl rfl [0, 3, 4, 5] [1, 2] [(h0_leaves, .inl (cZ, 24, .inl f0_leaves)), (h0_place, .inl (cI, 25, .inl f0_place))] rfl rfl (by decide) (by decide) (by decide) rfl hl.1 rfl (Nat.le_of_ble_eq_true rfl) dX5_choose_29 ⟨Nat.le_of_ble_eq_true rfl, Nat.le_of_ble_eq_true rfl⟩ (fun H locs hP hD hS => ?_)
          have hP : va_P D vwCl [(h0_leaves, .inl (cZ, 24, .inl f0_leaves)), (h0_place, .inl (cI, 25, .inl f0_place)), (h0, .inr (4, [.ref h0_leaves, .ref h0_place])), (h1, .inr (5, [.ref h1_kind, .ref h1_d, .ref h1_a, .ref h1_b, .int v1_count])), (h1_d, .inl (cI, L1, .inl f1_d)), (h1_kind, .inl (cI, L1, .inl f1_kind))] H := hP
          have hD : va_D A [(h0_leaves, .inl (cZ, 24, .inl f0_leaves)), (h0_place, .inl (cI, 25, .inl f0_place)), (h0, .inr (4, [.ref h0_leaves, .ref h0_place])), (h1, .inr (5, [.ref h1_kind, .ref h1_d, .ref h1_a, .ref h1_b, .int v1_count])), (h1_d, .inl (cI, L1, .inl f1_d)), (h1_kind, .inl (cI, L1, .inl f1_kind))] := hD
          refine lv_if_eq (tgt := 39) hx hb dX5_choose_32 (by decide) (fun c11 => ?_) (fun c11 => ?_)
          · have hf := ite_t hf c11
            refine lv_iconst (v := (0 : Int32)) hx hb dX5_choose_39 (by decide) ?_
            exact hJ_40 _ _ _ _ _ _ _ _ ls hf (hP.sub [2, 0, 1, 3, 4, 5] rfl) (hD.sub [2, 0, 1, 3, 4, 5] (by decide) rfl) hS (lv_sub hl [0, 1, 2, 3] rfl)
          · have hf := ite_e hf c11
            refine lv_iconst (v := (1 : Int32)) hx hb dX5_choose_35 (by decide) ?_
            refine lv_goto (tgt := 40) hx hb dX5_choose_36 (by decide) ?_
            exact hJ_40 _ _ _ _ _ _ _ _ ls hf (hP.sub [2, 0, 1, 3, 4, 5] rfl) (hD.sub [2, 0, 1, 3, 4, 5] (by decide) rfl) hS (lv_sub hl [0, 1, 2, 3] rfl)
  unfold f_X5_choose at hf
  refine lv_iconst (v := (0 : Int32)) hx hb dX5_choose_0 (by decide) ?_
  refine lv_istore_n (lv' := [(2, .int (0 : Int32)), (0, .ref h0), (1, .ref h1)]) hx hb dX5_choose_1 rfl hl (by decide) rfl (fun ls hl => ?_)
  refine lv_iconst (v := (0 : Int32)) hx hb dX5_choose_2 (by decide) ?_
  refine lv_istore_n (lv' := [(3, .int (0 : Int32)), (2, .int (0 : Int32)), (0, .ref h0), (1, .ref h1)]) hx hb dX5_choose_3 rfl hl (by decide) rfl (fun ls hl => ?_)
  exact hJ_4 n _ _ _ _ _ _ ls hf (hP.sub [0, 1, 2, 3, 4, 5] rfl) (hD.sub [0, 1, 2, 3, 4, 5] (by decide) rfl) hS (lv_sub hl [2, 3, 1, 0] rfl)

def f_X5_takeOut_61 (n : Nat) (k_11 : (Nat → Int32) → (Nat → Int32) → (Nat → Int32) → (Nat → Int32) → Int32 → Int32 → Int32 → Option (Int32 × (Nat → Int32) × (Nat → Int32) × (Nat → Int32) × (Nat → Int32) × Int32)) (L1 : Nat) (f0_leaves : (Nat → Int32)) (f0_place : (Nat → Int32)) (f1_a : (Nat → Int32)) (f1_b : (Nat → Int32)) (f1_d : (Nat → Int32)) (f1_kind : (Nat → Int32)) (v1_count : Int32) (x2 x3 x4 t0 : Int32) : Option (Int32 × (Nat → Int32) × (Nat → Int32) × (Nat → Int32) × (Nat → Int32) × Int32) := gd x3 L1 (gd x3 L1 ((f_X6_append L1 f1_a f1_b f1_d f1_kind v1_count x4 t0 (f1_a (x3).toNatClampNeg) (f1_b (x3).toNatClampNeg)).bind (fun u3 => k_11 u3.1 u3.2.1 u3.2.2.1 u3.2.2.2.1 u3.2.2.2.2 x2 (x3 + (1 : Int32)))))
def f_X5_takeOut_11 (n : Nat)  : Nat → Nat → (Nat → Int32) → (Nat → Int32) → (Nat → Int32) → (Nat → Int32) → (Nat → Int32) → (Nat → Int32) → Int32 → Int32 → Int32 → Option (Int32 × (Nat → Int32) × (Nat → Int32) × (Nat → Int32) × (Nat → Int32) × Int32)
  | 0, _, _, _, _, _, _, _, _, _, _ => none
  | k + 1, L1, f0_leaves, f0_place, f1_a, f1_b, f1_d, f1_kind, v1_count, x2, x3 => if x2 ≤ x3 then (some ((x2 - v1_count), f1_a, f1_b, f1_d, f1_kind, v1_count)) else (gd x3 24 (if (f0_leaves (x3).toNatClampNeg) = 0 then (gd x3 L1 ((f_X2_goesToD (f1_kind (x3).toNatClampNeg)).bind (fun u9 => if u9 = 0 then (gd x3 L1 (f_X5_takeOut_61 n (fun f1_a' f1_b' f1_d' f1_kind' v1_count' x2' x3' => f_X5_takeOut_11 n k L1 f0_leaves f0_place f1_a' f1_b' f1_d' f1_kind' v1_count' x2' x3') L1 f0_leaves f0_place f1_a f1_b f1_d f1_kind v1_count x2 x3 (f1_kind (x3).toNatClampNeg) (f1_d (x3).toNatClampNeg))) else (gd x3 L1 (gd (f1_d (x3).toNatClampNeg) 25 (f_X5_takeOut_61 n (fun f1_a' f1_b' f1_d' f1_kind' v1_count' x2' x3' => f_X5_takeOut_11 n k L1 f0_leaves f0_place f1_a' f1_b' f1_d' f1_kind' v1_count' x2' x3') L1 f0_leaves f0_place f1_a f1_b f1_d f1_kind v1_count x2 x3 (f1_kind (x3).toNatClampNeg) (f0_place ((f1_d (x3).toNatClampNeg)).toNatClampNeg))))))) else (f_X5_takeOut_11 n k L1 f0_leaves f0_place f1_a f1_b f1_d f1_kind v1_count x2 (x3 + (1 : Int32)))))
def f_X5_takeOut (n : Nat) (L1 : Nat) (f0_leaves : (Nat → Int32)) (f0_place : (Nat → Int32)) (f1_a : (Nat → Int32)) (f1_b : (Nat → Int32)) (f1_d : (Nat → Int32)) (f1_kind : (Nat → Int32)) (v1_count : Int32)  : Option (Int32 × (Nat → Int32) × (Nat → Int32) × (Nat → Int32) × (Nat → Int32) × Int32) := (f_X6_clear v1_count).bind (fun u15 => f_X5_takeOut_11 n n L1 f0_leaves f0_place f1_a f1_b f1_d f1_kind u15 v1_count (0 : Int32))
theorem iw_X5_takeOut_X5 : ∀ w ∈ wsX50, w ∈ wsX5_takeOut := by decide +kernel
theorem iw_X5_takeOut_X6 : ∀ w ∈ wsX60, w ∈ wsX5_takeOut := by decide +kernel
set_option maxHeartbeats 4000000 in
set_option maxRecDepth 100000 in
theorem c_X5_takeOut (l : Launch) (D : va_G) (cI cZ : ClassId) (h0 h1 h0_leaves h0_place h1_kind h1_d h1_a h1_b : Nat) (sz : Nat) (L1 : Nat) (f0_leaves f0_place f1_a f1_b f1_d f1_kind : Nat → Int32) (v1_count : Int32) (n : Nat)  (res : (Int32 × (Nat → Int32) × (Nat → Int32) × (Nat → Int32) × (Nat → Int32) × Int32)) (hf : f_X5_takeOut n L1 f0_leaves f0_place f1_a f1_b f1_d f1_kind v1_count = some res) : Ct_i l yX5_takeOut wsX5_takeOut ({ frames := 2, cells := 0, slots := 0, locals := 50 }) D [(cI, .int), (cZ, .boolean)] [.ref h0, .ref h1] sz [(h0, .inr (4, [.ref h0_leaves, .ref h0_place])), (h0_leaves, .inl (cZ, 24, .inl f0_leaves)), (h0_place, .inl (cI, 25, .inl f0_place)), (h1, .inr (5, [.ref h1_kind, .ref h1_d, .ref h1_a, .ref h1_b, .int v1_count])), (h1_a, .inl (cI, L1, .inl f1_a)), (h1_b, .inl (cI, L1, .inl f1_b)), (h1_d, .inl (cI, L1, .inl f1_d)), (h1_kind, .inl (cI, L1, .inl f1_kind))] res.1 [(h0, .inr (4, [.ref h0_leaves, .ref h0_place])), (h0_leaves, .inl (cZ, 24, .inl f0_leaves)), (h0_place, .inl (cI, 25, .inl f0_place)), (h1, .inr (5, [.ref h1_kind, .ref h1_d, .ref h1_a, .ref h1_b, .int res.2.2.2.2.2])), (h1_a, .inl (cI, L1, .inl res.2.1)), (h1_b, .inl (cI, L1, .inl res.2.2.1)), (h1_d, .inl (cI, L1, .inl res.2.2.2.1)), (h1_kind, .inl (cI, L1, .inl res.2.2.2.2.1))] := by
  refine g_of (cc := cX5_takeOut) (maxL := 6) (ret := some .int) (QQ := (fun A => g_Qi D [(cI, .int), (cZ, .boolean)] A res.1 [(h0, .inr (4, [.ref h0_leaves, .ref h0_place])), (h0_leaves, .inl (cZ, 24, .inl f0_leaves)), (h0_place, .inl (cI, 25, .inl f0_place)), (h1, .inr (5, [.ref h1_kind, .ref h1_d, .ref h1_a, .ref h1_b, .int res.2.2.2.2.2])), (h1_a, .inl (cI, L1, .inl res.2.1)), (h1_b, .inl (cI, L1, .inl res.2.2.1)), (h1_d, .inl (cI, L1, .inl res.2.2.2.1)), (h1_kind, .inl (cI, L1, .inl res.2.2.2.2.1))])) (by decide) rfl (Nat.le_of_ble_eq_true rfl) ?_
  intro p e s m args below meth c A ls S hr hlocks hA hP hK hD hl
  show W p l e ({ frames := 2, cells := 0, slots := 0, locals := 50 }) s m args below meth c s.heap [] 0 0 (MQ below (g_Qi D [(cI, .int), (cZ, .boolean)] A res.1 [(h0, .inr (4, [.ref h0_leaves, .ref h0_place])), (h0_leaves, .inl (cZ, 24, .inl f0_leaves)), (h0_place, .inl (cI, 25, .inl f0_place)), (h1, .inr (5, [.ref h1_kind, .ref h1_d, .ref h1_a, .ref h1_b, .int res.2.2.2.2.2])), (h1_a, .inl (cI, L1, .inl res.2.1)), (h1_b, .inl (cI, L1, .inl res.2.2.1)), (h1_d, .inl (cI, L1, .inl res.2.2.2.1)), (h1_kind, .inl (cI, L1, .inl res.2.2.2.2.1))]) args s 0 0 A) (F0 m 0 ls [])
  have hx := S.1
  have hb := S.2.1
  have hml := S.2.2.1
  have hown := S.2.2.2.1
  have hts := S.2.2.2.2
  have fl_15 := hts (.fieldLink RX5 15 "PassPipeline$Packing" "place" "[I") (by decide +kernel)
  have fl_19 := hts (.fieldLink RX5 19 "PassPipeline$Program" "count" "I") (by decide +kernel)
  have fl_25 := hts (.fieldLink RX5 25 "PassPipeline$Program" "kind" "[I") (by decide +kernel)
  have fl_46 := hts (.fieldLink RX5 46 "PassPipeline$Program" "d" "[I") (by decide +kernel)
  have fl_60 := hts (.fieldLink RX5 60 "PassPipeline$Program" "a" "[I") (by decide +kernel)
  have fl_63 := hts (.fieldLink RX5 63 "PassPipeline$Program" "b" "[I") (by decide +kernel)
  have fl_9 := hts (.fieldLink RX5 9 "PassPipeline$Packing" "leaves" "[Z") (by decide +kernel)
  have hS : va_S A s.heap s.heap [] := va_S.rf
  have hl : lv_has ls 6 [(0, .ref h0), (1, .ref h1)] := hl
  have hJ_11 : ∀ (k : Nat) (f1_a : (Nat → Int32)) (f1_b : (Nat → Int32)) (f1_d : (Nat → Int32)) (f1_kind : (Nat → Int32)) (v1_count : Int32) (x2 x3 : Int32) (H : Heap) (locs : List Loc) (ls : Array Slot), f_X5_takeOut_11 n k L1 f0_leaves f0_place f1_a f1_b f1_d f1_kind v1_count x2 x3 = some res → va_P D vwCl [(h0, .inr (4, [.ref h0_leaves, .ref h0_place])), (h0_leaves, .inl (cZ, 24, .inl f0_leaves)), (h0_place, .inl (cI, 25, .inl f0_place)), (h1, .inr (5, [.ref h1_kind, .ref h1_d, .ref h1_a, .ref h1_b, .int v1_count])), (h1_a, .inl (cI, L1, .inl f1_a)), (h1_b, .inl (cI, L1, .inl f1_b)), (h1_d, .inl (cI, L1, .inl f1_d)), (h1_kind, .inl (cI, L1, .inl f1_kind))] H → va_D A [(h0, .inr (4, [.ref h0_leaves, .ref h0_place])), (h0_leaves, .inl (cZ, 24, .inl f0_leaves)), (h0_place, .inl (cI, 25, .inl f0_place)), (h1, .inr (5, [.ref h1_kind, .ref h1_d, .ref h1_a, .ref h1_b, .int v1_count])), (h1_a, .inl (cI, L1, .inl f1_a)), (h1_b, .inl (cI, L1, .inl f1_b)), (h1_d, .inl (cI, L1, .inl f1_d)), (h1_kind, .inl (cI, L1, .inl f1_kind))] → va_S A s.heap H locs → lv_has ls 6 [(0, .ref h0), (1, .ref h1), (2, .int x2), (3, .int x3)] → W p l e ({ frames := 2, cells := 0, slots := 0, locals := 50 }) s m args below meth c H locs 0 0 (MQ below (g_Qi D [(cI, .int), (cZ, .boolean)] A res.1 [(h0, .inr (4, [.ref h0_leaves, .ref h0_place])), (h0_leaves, .inl (cZ, 24, .inl f0_leaves)), (h0_place, .inl (cI, 25, .inl f0_place)), (h1, .inr (5, [.ref h1_kind, .ref h1_d, .ref h1_a, .ref h1_b, .int res.2.2.2.2.2])), (h1_a, .inl (cI, L1, .inl res.2.1)), (h1_b, .inl (cI, L1, .inl res.2.2.1)), (h1_d, .inl (cI, L1, .inl res.2.2.2.1)), (h1_kind, .inl (cI, L1, .inl res.2.2.2.2.1))]) args s 0 0 A) (F0 m 11 ls []) := by
    intro k
    induction k with
    | zero => intro f1_a f1_b f1_d f1_kind v1_count x2 x3 H locs ls hf; rw [f_X5_takeOut_11] at hf; cases hf
    | succ m_11 ih =>
      have ih_11 : ∀ (f1_a : (Nat → Int32)) (f1_b : (Nat → Int32)) (f1_d : (Nat → Int32)) (f1_kind : (Nat → Int32)) (v1_count : Int32) (x2 x3 : Int32) (H : Heap) (locs : List Loc) (ls : Array Slot), (fun f1_a' f1_b' f1_d' f1_kind' v1_count' x2' x3' => f_X5_takeOut_11 n m_11 L1 f0_leaves f0_place f1_a' f1_b' f1_d' f1_kind' v1_count' x2' x3') f1_a f1_b f1_d f1_kind v1_count x2 x3 = some res → va_P D vwCl [(h0, .inr (4, [.ref h0_leaves, .ref h0_place])), (h0_leaves, .inl (cZ, 24, .inl f0_leaves)), (h0_place, .inl (cI, 25, .inl f0_place)), (h1, .inr (5, [.ref h1_kind, .ref h1_d, .ref h1_a, .ref h1_b, .int v1_count])), (h1_a, .inl (cI, L1, .inl f1_a)), (h1_b, .inl (cI, L1, .inl f1_b)), (h1_d, .inl (cI, L1, .inl f1_d)), (h1_kind, .inl (cI, L1, .inl f1_kind))] H → va_D A [(h0, .inr (4, [.ref h0_leaves, .ref h0_place])), (h0_leaves, .inl (cZ, 24, .inl f0_leaves)), (h0_place, .inl (cI, 25, .inl f0_place)), (h1, .inr (5, [.ref h1_kind, .ref h1_d, .ref h1_a, .ref h1_b, .int v1_count])), (h1_a, .inl (cI, L1, .inl f1_a)), (h1_b, .inl (cI, L1, .inl f1_b)), (h1_d, .inl (cI, L1, .inl f1_d)), (h1_kind, .inl (cI, L1, .inl f1_kind))] → va_S A s.heap H locs → lv_has ls 6 [(0, .ref h0), (1, .ref h1), (2, .int x2), (3, .int x3)] → W p l e ({ frames := 2, cells := 0, slots := 0, locals := 50 }) s m args below meth c H locs 0 0 (MQ below (g_Qi D [(cI, .int), (cZ, .boolean)] A res.1 [(h0, .inr (4, [.ref h0_leaves, .ref h0_place])), (h0_leaves, .inl (cZ, 24, .inl f0_leaves)), (h0_place, .inl (cI, 25, .inl f0_place)), (h1, .inr (5, [.ref h1_kind, .ref h1_d, .ref h1_a, .ref h1_b, .int res.2.2.2.2.2])), (h1_a, .inl (cI, L1, .inl res.2.1)), (h1_b, .inl (cI, L1, .inl res.2.2.1)), (h1_d, .inl (cI, L1, .inl res.2.2.2.1)), (h1_kind, .inl (cI, L1, .inl res.2.2.2.2.1))]) args s 0 0 A) (F0 m 11 ls []) := ih
      have hJ_61 : ∀ (f1_a : (Nat → Int32)) (f1_b : (Nat → Int32)) (f1_d : (Nat → Int32)) (f1_kind : (Nat → Int32)) (v1_count : Int32) (x2 x3 x4 t0 : Int32) (H : Heap) (locs : List Loc) (ls : Array Slot), f_X5_takeOut_61 n (fun f1_a' f1_b' f1_d' f1_kind' v1_count' x2' x3' => f_X5_takeOut_11 n m_11 L1 f0_leaves f0_place f1_a' f1_b' f1_d' f1_kind' v1_count' x2' x3') L1 f0_leaves f0_place f1_a f1_b f1_d f1_kind v1_count x2 x3 x4 t0 = some res → va_P D vwCl [(h0, .inr (4, [.ref h0_leaves, .ref h0_place])), (h0_leaves, .inl (cZ, 24, .inl f0_leaves)), (h0_place, .inl (cI, 25, .inl f0_place)), (h1, .inr (5, [.ref h1_kind, .ref h1_d, .ref h1_a, .ref h1_b, .int v1_count])), (h1_a, .inl (cI, L1, .inl f1_a)), (h1_b, .inl (cI, L1, .inl f1_b)), (h1_d, .inl (cI, L1, .inl f1_d)), (h1_kind, .inl (cI, L1, .inl f1_kind))] H → va_D A [(h0, .inr (4, [.ref h0_leaves, .ref h0_place])), (h0_leaves, .inl (cZ, 24, .inl f0_leaves)), (h0_place, .inl (cI, 25, .inl f0_place)), (h1, .inr (5, [.ref h1_kind, .ref h1_d, .ref h1_a, .ref h1_b, .int v1_count])), (h1_a, .inl (cI, L1, .inl f1_a)), (h1_b, .inl (cI, L1, .inl f1_b)), (h1_d, .inl (cI, L1, .inl f1_d)), (h1_kind, .inl (cI, L1, .inl f1_kind))] → va_S A s.heap H locs → lv_has ls 6 [(0, .ref h0), (1, .ref h1), (2, .int x2), (3, .int x3), (4, .int x4)] → W p l e ({ frames := 2, cells := 0, slots := 0, locals := 50 }) s m args below meth c H locs 0 0 (MQ below (g_Qi D [(cI, .int), (cZ, .boolean)] A res.1 [(h0, .inr (4, [.ref h0_leaves, .ref h0_place])), (h0_leaves, .inl (cZ, 24, .inl f0_leaves)), (h0_place, .inl (cI, 25, .inl f0_place)), (h1, .inr (5, [.ref h1_kind, .ref h1_d, .ref h1_a, .ref h1_b, .int res.2.2.2.2.2])), (h1_a, .inl (cI, L1, .inl res.2.1)), (h1_b, .inl (cI, L1, .inl res.2.2.1)), (h1_d, .inl (cI, L1, .inl res.2.2.2.1)), (h1_kind, .inl (cI, L1, .inl res.2.2.2.2.1))]) args s 0 0 A) (F0 m 61 ls [.int t0]) := by
        intro f1_a f1_b f1_d f1_kind v1_count x2 x3 x4 t0 H locs ls hf hP hD hS hl
        unfold f_X5_takeOut_61 at hf
        refine lv_istore (lv' := [(5, .int t0), (0, .ref h0), (1, .ref h1), (2, .int x2), (3, .int x3), (4, .int x4)]) hx hb dX5_takeOut_61 hl (by decide) rfl (fun ls hl => ?_)
        refine lv_aload_n hx hb dX5_takeOut_63 rfl (lv_at hl 2 rfl) ?_
        refine lv_iload hx hb dX5_takeOut_64 (lv_at hl 5 rfl) ?_
        refine lv_iload hx hb dX5_takeOut_66 (lv_at hl 0 rfl) ?_
        refine lv_aload_n hx hb dX5_takeOut_68 rfl (lv_at hl 2 rfl) ?_
        refine va_get (D := D) (ci := 5) (v := .ref h1_a) (C := RX6) (T := TX6) (N := 5) hx hb hts iw_X5_takeOut_X6 hown hK hP 3 rfl rfl 2 (by decide) fl_60 (fun _ h9 => h9) rfl dX5_takeOut_69 ?_
        refine lv_iload_n hx hb dX5_takeOut_72 rfl (lv_at hl 4 rfl) ?_
        obtain ⟨i1, hf⟩ := gd_some hf
        refine va_iald hx hb hK hP 4 0 rfl rfl i1 dX5_takeOut_73 ?_
        refine lv_aload_n hx hb dX5_takeOut_74 rfl (lv_at hl 2 rfl) ?_
        refine va_get (D := D) (ci := 5) (v := .ref h1_b) (C := RX6) (T := TX6) (N := 5) hx hb hts iw_X5_takeOut_X6 hown hK hP 3 rfl rfl 3 (by decide) fl_63 (fun _ h9 => h9) rfl dX5_takeOut_75 ?_
        refine lv_iload_n hx hb dX5_takeOut_78 rfl (lv_at hl 4 rfl) ?_
        obtain ⟨i2, hf⟩ := gd_some hf
        refine va_iald hx hb hK hP 5 0 rfl rfl i2 dX5_takeOut_79 ?_
        obtain ⟨u3, g4, hf⟩ := bd_some hf
        refine g_callVv S (c_X6_append l D cI cZ h1 h1_kind h1_d h1_a h1_b _ L1 f1_a f1_b f1_d f1_kind v1_count x4 t0 (f1_a (x3).toNatClampNeg) (f1_b (x3).toNatClampNeg) u3 g4) (cwV 4 hts gX5_takeOut_X6_append rfl rfl rfl (by decide +kernel) ⟨Nat.le_of_ble_eq_true rfl, Nat.le_of_ble_eq_true rfl⟩) hK hP hD hS hA 3 (ci := 5) rfl rfl [3, 4, 5, 6, 7] [0, 1, 2] [(h0, .inr (4, [.ref h0_leaves, .ref h0_place])), (h0_leaves, .inl (cZ, 24, .inl f0_leaves)), (h0_place, .inl (cI, 25, .inl f0_place))] rfl rfl (by decide) (by decide) (by decide) rfl hl.1 rfl (Nat.le_of_ble_eq_true rfl) dX5_takeOut_80 ⟨Nat.le_of_ble_eq_true rfl, Nat.le_of_ble_eq_true rfl⟩ (fun H locs hP hD hS => ?_)
        have hP : va_P D vwCl [(h0, .inr (4, [.ref h0_leaves, .ref h0_place])), (h0_leaves, .inl (cZ, 24, .inl f0_leaves)), (h0_place, .inl (cI, 25, .inl f0_place)), (h1, .inr (5, [.ref h1_kind, .ref h1_d, .ref h1_a, .ref h1_b, .int u3.2.2.2.2])), (h1_a, .inl (cI, L1, .inl u3.1)), (h1_b, .inl (cI, L1, .inl u3.2.1)), (h1_d, .inl (cI, L1, .inl u3.2.2.1)), (h1_kind, .inl (cI, L1, .inl u3.2.2.2.1))] H := hP
        have hD : va_D A [(h0, .inr (4, [.ref h0_leaves, .ref h0_place])), (h0_leaves, .inl (cZ, 24, .inl f0_leaves)), (h0_place, .inl (cI, 25, .inl f0_place)), (h1, .inr (5, [.ref h1_kind, .ref h1_d, .ref h1_a, .ref h1_b, .int u3.2.2.2.2])), (h1_a, .inl (cI, L1, .inl u3.1)), (h1_b, .inl (cI, L1, .inl u3.2.1)), (h1_d, .inl (cI, L1, .inl u3.2.2.1)), (h1_kind, .inl (cI, L1, .inl u3.2.2.2.1))] := hD
        refine lv_iinc (v := (x3 + (1 : Int32))) (lv' := [(3, .int (x3 + (1 : Int32))), (5, .int t0), (0, .ref h0), (1, .ref h1), (2, .int x2), (4, .int x4)]) hx hb dX5_takeOut_83 hl (k := 4) rfl rfl (by decide) rfl (fun ls hl => ?_)
        refine lv_goto (tgt := 11) hx hb dX5_takeOut_86 (by decide) ?_
        exact ih_11 _ _ _ _ _ _ _ _ _ ls hf (hP.sub [0, 1, 2, 3, 4, 5, 6, 7] rfl) (hD.sub [0, 1, 2, 3, 4, 5, 6, 7] (by decide) rfl) hS (lv_sub hl [2, 3, 4, 0] rfl)
      intro f1_a f1_b f1_d f1_kind v1_count x2 x3 H locs ls hf hP hD hS hl
      rw [f_X5_takeOut_11] at hf
      refine lv_iload_n hx hb dX5_takeOut_11 rfl (lv_at hl 3 rfl) ?_
      refine lv_iload_n hx hb dX5_takeOut_12 rfl (lv_at hl 2 rfl) ?_
      refine lv_icmp_ge (tgt := 89) hx hb dX5_takeOut_13 (by decide) (fun c5 => ?_) (fun c5 => ?_)
      · have hf := ite_t hf c5
        refine lv_iload_n hx hb dX5_takeOut_89 rfl (lv_at hl 2 rfl) ?_
        refine lv_aload_n hx hb dX5_takeOut_90 rfl (lv_at hl 1 rfl) ?_
        refine va_get (D := D) (ci := 5) (v := .int v1_count) (C := RX6) (T := TX6) (N := 5) hx hb hts iw_X5_takeOut_X6 hown hK hP 3 rfl rfl 4 (by decide) fl_19 (fun _ h9 => h9) rfl dX5_takeOut_91 ?_
        refine lv_isub hx hb dX5_takeOut_94 ?_
        have hf := Option.some.inj hf
        subst hf
        exact g_iret hx hb hr hlocks (hP.sub [0, 1, 2, 3, 4, 5, 6, 7] rfl) (hD.sub [0, 1, 2, 3, 4, 5, 6, 7] (by decide) rfl) hK hS rfl dX5_takeOut_95
      · have hf := ite_e hf c5
        refine lv_aload_n hx hb dX5_takeOut_16 rfl (lv_at hl 0 rfl) ?_
        refine va_get (D := D) (ci := 4) (v := .ref h0_leaves) (C := RX5) (T := TX5) (N := 2) hx hb hts iw_X5_takeOut_X5 hown hK hP 0 rfl rfl 0 (by decide) fl_9 (fun _ h9 => h9) rfl dX5_takeOut_17 ?_
        refine lv_iload_n hx hb dX5_takeOut_20 rfl (lv_at hl 3 rfl) ?_
        obtain ⟨i6, hf⟩ := gd_some hf
        refine va_zald hx hb hK hP 1 1 rfl rfl i6 dX5_takeOut_21 ?_
        refine lv_if_ne (tgt := 83) hx hb dX5_takeOut_22 (by decide) (fun c7 => ?_) (fun c7 => ?_)
        · have hf := ite_e hf c7
          refine lv_iinc (v := (x3 + (1 : Int32))) (lv' := [(3, .int (x3 + (1 : Int32))), (0, .ref h0), (1, .ref h1), (2, .int x2)]) hx hb dX5_takeOut_83 hl (k := 3) rfl rfl (by decide) rfl (fun ls hl => ?_)
          refine lv_goto (tgt := 11) hx hb dX5_takeOut_86 (by decide) ?_
          exact ih_11 _ _ _ _ _ _ _ _ _ ls hf (hP.sub [0, 1, 2, 3, 4, 5, 6, 7] rfl) (hD.sub [0, 1, 2, 3, 4, 5, 6, 7] (by decide) rfl) hS (lv_sub hl [1, 2, 3, 0] rfl)
        · have hf := ite_t hf c7
          refine lv_aload_n hx hb dX5_takeOut_25 rfl (lv_at hl 1 rfl) ?_
          refine va_get (D := D) (ci := 5) (v := .ref h1_kind) (C := RX6) (T := TX6) (N := 5) hx hb hts iw_X5_takeOut_X6 hown hK hP 3 rfl rfl 0 (by decide) fl_25 (fun _ h9 => h9) rfl dX5_takeOut_26 ?_
          refine lv_iload_n hx hb dX5_takeOut_29 rfl (lv_at hl 3 rfl) ?_
          obtain ⟨i8, hf⟩ := gd_some hf
          refine va_iald hx hb hK hP 7 0 rfl rfl i8 dX5_takeOut_30 ?_
          refine lv_istore (lv' := [(4, .int (f1_kind (x3).toNatClampNeg)), (0, .ref h0), (1, .ref h1), (2, .int x2), (3, .int x3)]) hx hb dX5_takeOut_31 hl (by decide) rfl (fun ls hl => ?_)
          refine lv_iload hx hb dX5_takeOut_33 (lv_at hl 0 rfl) ?_
          obtain ⟨u9, g10, hf⟩ := bd_some hf
          refine g_callSi S (c_X2_goesToD l D cI cZ _ (f1_kind (x3).toNatClampNeg) u9 g10) (va_cwS 1 hts gX5_takeOut_X2_goesToD rfl rfl rfl (by decide +kernel) ⟨Nat.le_of_ble_eq_true rfl, Nat.le_of_ble_eq_true rfl⟩) hK hP hD hS hA [] [0, 1, 2, 3, 4, 5, 6, 7] [(h0, .inr (4, [.ref h0_leaves, .ref h0_place])), (h0_leaves, .inl (cZ, 24, .inl f0_leaves)), (h0_place, .inl (cI, 25, .inl f0_place)), (h1, .inr (5, [.ref h1_kind, .ref h1_d, .ref h1_a, .ref h1_b, .int v1_count])), (h1_a, .inl (cI, L1, .inl f1_a)), (h1_b, .inl (cI, L1, .inl f1_b)), (h1_d, .inl (cI, L1, .inl f1_d)), (h1_kind, .inl (cI, L1, .inl f1_kind))] rfl rfl (by decide) (by decide) (by decide) rfl hl.1 rfl (Nat.le_of_ble_eq_true rfl) dX5_takeOut_35 ⟨Nat.le_of_ble_eq_true rfl, Nat.le_of_ble_eq_true rfl⟩ (fun H locs hP hD hS => ?_)
          have hP : va_P D vwCl [(h0, .inr (4, [.ref h0_leaves, .ref h0_place])), (h0_leaves, .inl (cZ, 24, .inl f0_leaves)), (h0_place, .inl (cI, 25, .inl f0_place)), (h1, .inr (5, [.ref h1_kind, .ref h1_d, .ref h1_a, .ref h1_b, .int v1_count])), (h1_a, .inl (cI, L1, .inl f1_a)), (h1_b, .inl (cI, L1, .inl f1_b)), (h1_d, .inl (cI, L1, .inl f1_d)), (h1_kind, .inl (cI, L1, .inl f1_kind))] H := hP
          have hD : va_D A [(h0, .inr (4, [.ref h0_leaves, .ref h0_place])), (h0_leaves, .inl (cZ, 24, .inl f0_leaves)), (h0_place, .inl (cI, 25, .inl f0_place)), (h1, .inr (5, [.ref h1_kind, .ref h1_d, .ref h1_a, .ref h1_b, .int v1_count])), (h1_a, .inl (cI, L1, .inl f1_a)), (h1_b, .inl (cI, L1, .inl f1_b)), (h1_d, .inl (cI, L1, .inl f1_d)), (h1_kind, .inl (cI, L1, .inl f1_kind))] := hD
          refine lv_if_eq (tgt := 55) hx hb dX5_takeOut_38 (by decide) (fun c11 => ?_) (fun c11 => ?_)
          · have hf := ite_t hf c11
            refine lv_aload_n hx hb dX5_takeOut_55 rfl (lv_at hl 2 rfl) ?_
            refine va_get (D := D) (ci := 5) (v := .ref h1_d) (C := RX6) (T := TX6) (N := 5) hx hb hts iw_X5_takeOut_X6 hown hK hP 3 rfl rfl 1 (by decide) fl_46 (fun _ h9 => h9) rfl dX5_takeOut_56 ?_
            refine lv_iload_n hx hb dX5_takeOut_59 rfl (lv_at hl 4 rfl) ?_
            obtain ⟨i12, hf⟩ := gd_some hf
            refine va_iald hx hb hK hP 6 0 rfl rfl i12 dX5_takeOut_60 ?_
            exact hJ_61 _ _ _ _ _ _ _ _ _ _ _ ls hf (hP.sub [0, 1, 2, 3, 4, 5, 6, 7] rfl) (hD.sub [0, 1, 2, 3, 4, 5, 6, 7] (by decide) rfl) hS (lv_sub hl [1, 2, 3, 4, 0] rfl)
          · have hf := ite_e hf c11
            refine lv_aload_n hx hb dX5_takeOut_41 rfl (lv_at hl 1 rfl) ?_
            refine va_get (D := D) (ci := 4) (v := .ref h0_place) (C := RX5) (T := TX5) (N := 2) hx hb hts iw_X5_takeOut_X5 hown hK hP 0 rfl rfl 1 (by decide) fl_15 (fun _ h9 => h9) rfl dX5_takeOut_42 ?_
            refine lv_aload_n hx hb dX5_takeOut_45 rfl (lv_at hl 2 rfl) ?_
            refine va_get (D := D) (ci := 5) (v := .ref h1_d) (C := RX6) (T := TX6) (N := 5) hx hb hts iw_X5_takeOut_X6 hown hK hP 3 rfl rfl 1 (by decide) fl_46 (fun _ h9 => h9) rfl dX5_takeOut_46 ?_
            refine lv_iload_n hx hb dX5_takeOut_49 rfl (lv_at hl 4 rfl) ?_
            obtain ⟨i13, hf⟩ := gd_some hf
            refine va_iald hx hb hK hP 6 0 rfl rfl i13 dX5_takeOut_50 ?_
            obtain ⟨i14, hf⟩ := gd_some hf
            refine va_iald hx hb hK hP 2 0 rfl rfl i14 dX5_takeOut_51 ?_
            refine lv_goto (tgt := 61) hx hb dX5_takeOut_52 (by decide) ?_
            exact hJ_61 _ _ _ _ _ _ _ _ _ _ _ ls hf (hP.sub [0, 1, 2, 3, 4, 5, 6, 7] rfl) (hD.sub [0, 1, 2, 3, 4, 5, 6, 7] (by decide) rfl) hS (lv_sub hl [1, 2, 3, 4, 0] rfl)
  unfold f_X5_takeOut at hf
  refine lv_aload_n hx hb dX5_takeOut_0 rfl (lv_at hl 1 rfl) ?_
  refine va_get (D := D) (ci := 5) (v := .int v1_count) (C := RX6) (T := TX6) (N := 5) hx hb hts iw_X5_takeOut_X6 hown hK hP 3 rfl rfl 4 (by decide) fl_19 (fun _ h9 => h9) rfl dX5_takeOut_1 ?_
  refine lv_istore_n (lv' := [(2, .int v1_count), (0, .ref h0), (1, .ref h1)]) hx hb dX5_takeOut_4 rfl hl (by decide) rfl (fun ls hl => ?_)
  refine lv_aload_n hx hb dX5_takeOut_5 rfl (lv_at hl 2 rfl) ?_
  obtain ⟨u15, g16, hf⟩ := bd_some hf
  refine g_callVv S (c_X6_clear l D cI cZ h1 h1_kind h1_d h1_a h1_b _ v1_count u15 g16) (cwV 0 hts gX5_takeOut_X6_clear rfl rfl rfl (by decide +kernel) ⟨Nat.le_of_ble_eq_true rfl, Nat.le_of_ble_eq_true rfl⟩) hK hP hD hS hA 3 (ci := 5) rfl rfl [3] [0, 1, 2, 4, 5, 6, 7] [(h0, .inr (4, [.ref h0_leaves, .ref h0_place])), (h0_leaves, .inl (cZ, 24, .inl f0_leaves)), (h0_place, .inl (cI, 25, .inl f0_place)), (h1_a, .inl (cI, L1, .inl f1_a)), (h1_b, .inl (cI, L1, .inl f1_b)), (h1_d, .inl (cI, L1, .inl f1_d)), (h1_kind, .inl (cI, L1, .inl f1_kind))] rfl rfl (by decide) (by decide) (by decide) rfl hl.1 rfl (Nat.le_of_ble_eq_true rfl) dX5_takeOut_6 ⟨Nat.le_of_ble_eq_true rfl, Nat.le_of_ble_eq_true rfl⟩ (fun H locs hP hD hS => ?_)
  have hP : va_P D vwCl [(h0, .inr (4, [.ref h0_leaves, .ref h0_place])), (h0_leaves, .inl (cZ, 24, .inl f0_leaves)), (h0_place, .inl (cI, 25, .inl f0_place)), (h1_a, .inl (cI, L1, .inl f1_a)), (h1_b, .inl (cI, L1, .inl f1_b)), (h1_d, .inl (cI, L1, .inl f1_d)), (h1_kind, .inl (cI, L1, .inl f1_kind)), (h1, .inr (5, [.ref h1_kind, .ref h1_d, .ref h1_a, .ref h1_b, .int u15]))] H := hP
  have hD : va_D A [(h0, .inr (4, [.ref h0_leaves, .ref h0_place])), (h0_leaves, .inl (cZ, 24, .inl f0_leaves)), (h0_place, .inl (cI, 25, .inl f0_place)), (h1_a, .inl (cI, L1, .inl f1_a)), (h1_b, .inl (cI, L1, .inl f1_b)), (h1_d, .inl (cI, L1, .inl f1_d)), (h1_kind, .inl (cI, L1, .inl f1_kind)), (h1, .inr (5, [.ref h1_kind, .ref h1_d, .ref h1_a, .ref h1_b, .int u15]))] := hD
  refine lv_iconst (v := (0 : Int32)) hx hb dX5_takeOut_9 (by decide) ?_
  refine lv_istore_n (lv' := [(3, .int (0 : Int32)), (2, .int v1_count), (0, .ref h0), (1, .ref h1)]) hx hb dX5_takeOut_10 rfl hl (by decide) rfl (fun ls hl => ?_)
  exact hJ_11 n _ _ _ _ _ _ _ _ _ ls hf (hP.sub [0, 1, 2, 7, 3, 4, 5, 6] rfl) (hD.sub [0, 1, 2, 7, 3, 4, 5, 6] (by decide) rfl) hS (lv_sub hl [2, 3, 1, 0] rfl)

def f_X5_pack_2 (n : Nat)  : Nat → Nat → (Nat → Int32) → (Nat → Int32) → (Nat → Int32) → (Nat → Int32) → (Nat → Int32) → (Nat → Int32) → Int32 → Int32 → Option (Int32 × (Nat → Int32) × (Nat → Int32) × (Nat → Int32) × (Nat → Int32) × (Nat → Int32) × (Nat → Int32) × Int32)
  | 0, _, _, _, _, _, _, _, _, _ => none
  | k + 1, L1, f0_leaves, f0_place, f1_a, f1_b, f1_d, f1_kind, v1_count, x2 => if v1_count ≤ x2 then ((f_X5_choose n L1 f0_leaves f0_place f1_d f1_kind v1_count).bind (fun u2 => (f_X5_takeOut n L1 u2.1 u2.2 f1_a f1_b f1_d f1_kind v1_count).bind (fun u4 => some (u4.1, u2.1, u2.2, u4.2.1, u4.2.2.1, u4.2.2.2.1, u4.2.2.2.2.1, u4.2.2.2.2.2)))) else (gd x2 L1 ((f_X2_goesToD (f1_kind (x2).toNatClampNeg)).bind (fun u7 => if u7 = 0 then (f_X5_pack_2 n k L1 f0_leaves f0_place f1_a f1_b f1_d f1_kind v1_count (x2 + (1 : Int32))) else ((f_X5_goFurther n L1 f1_d f1_kind v1_count x2).bind (fun u10 => f_X5_pack_2 n k L1 f0_leaves f0_place f1_a f1_b u10 f1_kind v1_count (x2 + (1 : Int32)))))))
def f_X5_pack (n : Nat) (L1 : Nat) (f0_leaves : (Nat → Int32)) (f0_place : (Nat → Int32)) (f1_a : (Nat → Int32)) (f1_b : (Nat → Int32)) (f1_d : (Nat → Int32)) (f1_kind : (Nat → Int32)) (v1_count : Int32)  : Option (Int32 × (Nat → Int32) × (Nat → Int32) × (Nat → Int32) × (Nat → Int32) × (Nat → Int32) × (Nat → Int32) × Int32) := f_X5_pack_2 n n L1 f0_leaves f0_place f1_a f1_b f1_d f1_kind v1_count (0 : Int32)
theorem iw_X5_pack_X6 : ∀ w ∈ wsX60, w ∈ wsX5_pack := by decide +kernel
set_option maxHeartbeats 4000000 in
set_option maxRecDepth 100000 in
theorem c_X5_pack (l : Launch) (D : va_G) (cI cZ : ClassId) (h0 h1 h0_leaves h0_place h1_kind h1_d h1_a h1_b : Nat) (sz : Nat) (L1 : Nat) (f0_leaves f0_place f1_a f1_b f1_d f1_kind : Nat → Int32) (v1_count : Int32) (n : Nat)  (res : (Int32 × (Nat → Int32) × (Nat → Int32) × (Nat → Int32) × (Nat → Int32) × (Nat → Int32) × (Nat → Int32) × Int32)) (hf : f_X5_pack n L1 f0_leaves f0_place f1_a f1_b f1_d f1_kind v1_count = some res) : Ct_i l yX5_pack wsX5_pack ({ frames := 3, cells := 0, slots := 0, locals := 75 }) D [(cI, .int), (cZ, .boolean)] [.ref h0, .ref h1] sz [(h0, .inr (4, [.ref h0_leaves, .ref h0_place])), (h0_leaves, .inl (cZ, 24, .inl f0_leaves)), (h0_place, .inl (cI, 25, .inl f0_place)), (h1, .inr (5, [.ref h1_kind, .ref h1_d, .ref h1_a, .ref h1_b, .int v1_count])), (h1_a, .inl (cI, L1, .inl f1_a)), (h1_b, .inl (cI, L1, .inl f1_b)), (h1_d, .inl (cI, L1, .inl f1_d)), (h1_kind, .inl (cI, L1, .inl f1_kind))] res.1 [(h0, .inr (4, [.ref h0_leaves, .ref h0_place])), (h0_leaves, .inl (cZ, 24, .inl res.2.1)), (h0_place, .inl (cI, 25, .inl res.2.2.1)), (h1, .inr (5, [.ref h1_kind, .ref h1_d, .ref h1_a, .ref h1_b, .int res.2.2.2.2.2.2.2])), (h1_a, .inl (cI, L1, .inl res.2.2.2.1)), (h1_b, .inl (cI, L1, .inl res.2.2.2.2.1)), (h1_d, .inl (cI, L1, .inl res.2.2.2.2.2.1)), (h1_kind, .inl (cI, L1, .inl res.2.2.2.2.2.2.1))] := by
  refine g_of (cc := cX5_pack) (maxL := 3) (ret := some .int) (QQ := (fun A => g_Qi D [(cI, .int), (cZ, .boolean)] A res.1 [(h0, .inr (4, [.ref h0_leaves, .ref h0_place])), (h0_leaves, .inl (cZ, 24, .inl res.2.1)), (h0_place, .inl (cI, 25, .inl res.2.2.1)), (h1, .inr (5, [.ref h1_kind, .ref h1_d, .ref h1_a, .ref h1_b, .int res.2.2.2.2.2.2.2])), (h1_a, .inl (cI, L1, .inl res.2.2.2.1)), (h1_b, .inl (cI, L1, .inl res.2.2.2.2.1)), (h1_d, .inl (cI, L1, .inl res.2.2.2.2.2.1)), (h1_kind, .inl (cI, L1, .inl res.2.2.2.2.2.2.1))])) (by decide) rfl (Nat.le_of_ble_eq_true rfl) ?_
  intro p e s m args below meth c A ls S hr hlocks hA hP hK hD hl
  show W p l e ({ frames := 3, cells := 0, slots := 0, locals := 75 }) s m args below meth c s.heap [] 0 0 (MQ below (g_Qi D [(cI, .int), (cZ, .boolean)] A res.1 [(h0, .inr (4, [.ref h0_leaves, .ref h0_place])), (h0_leaves, .inl (cZ, 24, .inl res.2.1)), (h0_place, .inl (cI, 25, .inl res.2.2.1)), (h1, .inr (5, [.ref h1_kind, .ref h1_d, .ref h1_a, .ref h1_b, .int res.2.2.2.2.2.2.2])), (h1_a, .inl (cI, L1, .inl res.2.2.2.1)), (h1_b, .inl (cI, L1, .inl res.2.2.2.2.1)), (h1_d, .inl (cI, L1, .inl res.2.2.2.2.2.1)), (h1_kind, .inl (cI, L1, .inl res.2.2.2.2.2.2.1))]) args s 0 0 A) (F0 m 0 ls [])
  have hx := S.1
  have hb := S.2.1
  have hml := S.2.2.1
  have hown := S.2.2.2.1
  have hts := S.2.2.2.2
  have fl_19 := hts (.fieldLink RX5 19 "PassPipeline$Program" "count" "I") (by decide +kernel)
  have fl_25 := hts (.fieldLink RX5 25 "PassPipeline$Program" "kind" "[I") (by decide +kernel)
  have hS : va_S A s.heap s.heap [] := va_S.rf
  have hl : lv_has ls 3 [(0, .ref h0), (1, .ref h1)] := hl
  have hJ_2 : ∀ (k : Nat) (f0_leaves : (Nat → Int32)) (f0_place : (Nat → Int32)) (f1_a : (Nat → Int32)) (f1_b : (Nat → Int32)) (f1_d : (Nat → Int32)) (f1_kind : (Nat → Int32)) (v1_count : Int32) (x2 : Int32) (H : Heap) (locs : List Loc) (ls : Array Slot), f_X5_pack_2 n k L1 f0_leaves f0_place f1_a f1_b f1_d f1_kind v1_count x2 = some res → va_P D vwCl [(h0, .inr (4, [.ref h0_leaves, .ref h0_place])), (h0_leaves, .inl (cZ, 24, .inl f0_leaves)), (h0_place, .inl (cI, 25, .inl f0_place)), (h1, .inr (5, [.ref h1_kind, .ref h1_d, .ref h1_a, .ref h1_b, .int v1_count])), (h1_a, .inl (cI, L1, .inl f1_a)), (h1_b, .inl (cI, L1, .inl f1_b)), (h1_d, .inl (cI, L1, .inl f1_d)), (h1_kind, .inl (cI, L1, .inl f1_kind))] H → va_D A [(h0, .inr (4, [.ref h0_leaves, .ref h0_place])), (h0_leaves, .inl (cZ, 24, .inl f0_leaves)), (h0_place, .inl (cI, 25, .inl f0_place)), (h1, .inr (5, [.ref h1_kind, .ref h1_d, .ref h1_a, .ref h1_b, .int v1_count])), (h1_a, .inl (cI, L1, .inl f1_a)), (h1_b, .inl (cI, L1, .inl f1_b)), (h1_d, .inl (cI, L1, .inl f1_d)), (h1_kind, .inl (cI, L1, .inl f1_kind))] → va_S A s.heap H locs → lv_has ls 3 [(0, .ref h0), (1, .ref h1), (2, .int x2)] → W p l e ({ frames := 3, cells := 0, slots := 0, locals := 75 }) s m args below meth c H locs 0 0 (MQ below (g_Qi D [(cI, .int), (cZ, .boolean)] A res.1 [(h0, .inr (4, [.ref h0_leaves, .ref h0_place])), (h0_leaves, .inl (cZ, 24, .inl res.2.1)), (h0_place, .inl (cI, 25, .inl res.2.2.1)), (h1, .inr (5, [.ref h1_kind, .ref h1_d, .ref h1_a, .ref h1_b, .int res.2.2.2.2.2.2.2])), (h1_a, .inl (cI, L1, .inl res.2.2.2.1)), (h1_b, .inl (cI, L1, .inl res.2.2.2.2.1)), (h1_d, .inl (cI, L1, .inl res.2.2.2.2.2.1)), (h1_kind, .inl (cI, L1, .inl res.2.2.2.2.2.2.1))]) args s 0 0 A) (F0 m 2 ls []) := by
    intro k
    induction k with
    | zero => intro f0_leaves f0_place f1_a f1_b f1_d f1_kind v1_count x2 H locs ls hf; rw [f_X5_pack_2] at hf; cases hf
    | succ m_2 ih =>
      have ih_2 : ∀ (f0_leaves : (Nat → Int32)) (f0_place : (Nat → Int32)) (f1_a : (Nat → Int32)) (f1_b : (Nat → Int32)) (f1_d : (Nat → Int32)) (f1_kind : (Nat → Int32)) (v1_count : Int32) (x2 : Int32) (H : Heap) (locs : List Loc) (ls : Array Slot), (fun f0_leaves' f0_place' f1_a' f1_b' f1_d' f1_kind' v1_count' x2' => f_X5_pack_2 n m_2 L1 f0_leaves' f0_place' f1_a' f1_b' f1_d' f1_kind' v1_count' x2') f0_leaves f0_place f1_a f1_b f1_d f1_kind v1_count x2 = some res → va_P D vwCl [(h0, .inr (4, [.ref h0_leaves, .ref h0_place])), (h0_leaves, .inl (cZ, 24, .inl f0_leaves)), (h0_place, .inl (cI, 25, .inl f0_place)), (h1, .inr (5, [.ref h1_kind, .ref h1_d, .ref h1_a, .ref h1_b, .int v1_count])), (h1_a, .inl (cI, L1, .inl f1_a)), (h1_b, .inl (cI, L1, .inl f1_b)), (h1_d, .inl (cI, L1, .inl f1_d)), (h1_kind, .inl (cI, L1, .inl f1_kind))] H → va_D A [(h0, .inr (4, [.ref h0_leaves, .ref h0_place])), (h0_leaves, .inl (cZ, 24, .inl f0_leaves)), (h0_place, .inl (cI, 25, .inl f0_place)), (h1, .inr (5, [.ref h1_kind, .ref h1_d, .ref h1_a, .ref h1_b, .int v1_count])), (h1_a, .inl (cI, L1, .inl f1_a)), (h1_b, .inl (cI, L1, .inl f1_b)), (h1_d, .inl (cI, L1, .inl f1_d)), (h1_kind, .inl (cI, L1, .inl f1_kind))] → va_S A s.heap H locs → lv_has ls 3 [(0, .ref h0), (1, .ref h1), (2, .int x2)] → W p l e ({ frames := 3, cells := 0, slots := 0, locals := 75 }) s m args below meth c H locs 0 0 (MQ below (g_Qi D [(cI, .int), (cZ, .boolean)] A res.1 [(h0, .inr (4, [.ref h0_leaves, .ref h0_place])), (h0_leaves, .inl (cZ, 24, .inl res.2.1)), (h0_place, .inl (cI, 25, .inl res.2.2.1)), (h1, .inr (5, [.ref h1_kind, .ref h1_d, .ref h1_a, .ref h1_b, .int res.2.2.2.2.2.2.2])), (h1_a, .inl (cI, L1, .inl res.2.2.2.1)), (h1_b, .inl (cI, L1, .inl res.2.2.2.2.1)), (h1_d, .inl (cI, L1, .inl res.2.2.2.2.2.1)), (h1_kind, .inl (cI, L1, .inl res.2.2.2.2.2.2.1))]) args s 0 0 A) (F0 m 2 ls []) := ih
      intro f0_leaves f0_place f1_a f1_b f1_d f1_kind v1_count x2 H locs ls hf hP hD hS hl
      rw [f_X5_pack_2] at hf
      refine lv_iload_n hx hb dX5_pack_2 rfl (lv_at hl 2 rfl) ?_
      refine lv_aload_n hx hb dX5_pack_3 rfl (lv_at hl 1 rfl) ?_
      refine va_get (D := D) (ci := 5) (v := .int v1_count) (C := RX6) (T := TX6) (N := 5) hx hb hts iw_X5_pack_X6 hown hK hP 3 rfl rfl 4 (by decide) fl_19 (fun _ h9 => h9) rfl dX5_pack_4 ?_
      refine lv_icmp_ge (tgt := 34) hx hb dX5_pack_7 (by decide) (fun c1 => ?_) (fun c1 => ?_)
      · have hf := ite_t hf c1
        refine lv_aload_n hx hb dX5_pack_34 rfl (lv_at hl 0 rfl) ?_
        refine lv_aload_n hx hb dX5_pack_35 rfl (lv_at hl 1 rfl) ?_
        obtain ⟨u2, g3, hf⟩ := bd_some hf
        refine g_callVv S (c_X5_choose l D cI cZ h0 h1 h0_leaves h0_place h1_kind h1_d h1_a h1_b _ L1 f0_leaves f0_place f1_d f1_kind v1_count n u2 g3) (cwV 1 hts gX5_pack_X5_choose rfl rfl rfl (by decide +kernel) ⟨Nat.le_of_ble_eq_true rfl, Nat.le_of_ble_eq_true rfl⟩) hK hP hD hS hA 0 (ci := 4) rfl rfl [0, 1, 2, 3, 6, 7] [4, 5] [(h1_a, .inl (cI, L1, .inl f1_a)), (h1_b, .inl (cI, L1, .inl f1_b))] rfl rfl (by decide) (by decide) (by decide) rfl hl.1 rfl (Nat.le_of_ble_eq_true rfl) dX5_pack_36 ⟨Nat.le_of_ble_eq_true rfl, Nat.le_of_ble_eq_true rfl⟩ (fun H locs hP hD hS => ?_)
        have hP : va_P D vwCl [(h1_a, .inl (cI, L1, .inl f1_a)), (h1_b, .inl (cI, L1, .inl f1_b)), (h0, .inr (4, [.ref h0_leaves, .ref h0_place])), (h0_leaves, .inl (cZ, 24, .inl u2.1)), (h0_place, .inl (cI, 25, .inl u2.2)), (h1, .inr (5, [.ref h1_kind, .ref h1_d, .ref h1_a, .ref h1_b, .int v1_count])), (h1_d, .inl (cI, L1, .inl f1_d)), (h1_kind, .inl (cI, L1, .inl f1_kind))] H := hP
        have hD : va_D A [(h1_a, .inl (cI, L1, .inl f1_a)), (h1_b, .inl (cI, L1, .inl f1_b)), (h0, .inr (4, [.ref h0_leaves, .ref h0_place])), (h0_leaves, .inl (cZ, 24, .inl u2.1)), (h0_place, .inl (cI, 25, .inl u2.2)), (h1, .inr (5, [.ref h1_kind, .ref h1_d, .ref h1_a, .ref h1_b, .int v1_count])), (h1_d, .inl (cI, L1, .inl f1_d)), (h1_kind, .inl (cI, L1, .inl f1_kind))] := hD
        refine lv_aload_n hx hb dX5_pack_39 rfl (lv_at hl 0 rfl) ?_
        refine lv_aload_n hx hb dX5_pack_40 rfl (lv_at hl 1 rfl) ?_
        obtain ⟨u4, g5, hf⟩ := bd_some hf
        refine g_callVi S (c_X5_takeOut l D cI cZ h0 h1 h0_leaves h0_place h1_kind h1_d h1_a h1_b _ L1 u2.1 u2.2 f1_a f1_b f1_d f1_kind v1_count n u4 g5) (cwV 1 hts gX5_pack_X5_takeOut rfl rfl rfl (by decide +kernel) ⟨Nat.le_of_ble_eq_true rfl, Nat.le_of_ble_eq_true rfl⟩) hK hP hD hS hA 2 (ci := 4) rfl rfl [2, 3, 4, 5, 0, 1, 6, 7] [] [] rfl rfl (by decide) (by decide) (by decide) rfl hl.1 rfl (Nat.le_of_ble_eq_true rfl) dX5_pack_41 ⟨Nat.le_of_ble_eq_true rfl, Nat.le_of_ble_eq_true rfl⟩ (fun H locs hP hD hS => ?_)
        have hP : va_P D vwCl [(h0, .inr (4, [.ref h0_leaves, .ref h0_place])), (h0_leaves, .inl (cZ, 24, .inl u2.1)), (h0_place, .inl (cI, 25, .inl u2.2)), (h1, .inr (5, [.ref h1_kind, .ref h1_d, .ref h1_a, .ref h1_b, .int u4.2.2.2.2.2])), (h1_a, .inl (cI, L1, .inl u4.2.1)), (h1_b, .inl (cI, L1, .inl u4.2.2.1)), (h1_d, .inl (cI, L1, .inl u4.2.2.2.1)), (h1_kind, .inl (cI, L1, .inl u4.2.2.2.2.1))] H := hP
        have hD : va_D A [(h0, .inr (4, [.ref h0_leaves, .ref h0_place])), (h0_leaves, .inl (cZ, 24, .inl u2.1)), (h0_place, .inl (cI, 25, .inl u2.2)), (h1, .inr (5, [.ref h1_kind, .ref h1_d, .ref h1_a, .ref h1_b, .int u4.2.2.2.2.2])), (h1_a, .inl (cI, L1, .inl u4.2.1)), (h1_b, .inl (cI, L1, .inl u4.2.2.1)), (h1_d, .inl (cI, L1, .inl u4.2.2.2.1)), (h1_kind, .inl (cI, L1, .inl u4.2.2.2.2.1))] := hD
        have hf := Option.some.inj hf
        subst hf
        exact g_iret hx hb hr hlocks (hP.sub [0, 1, 2, 3, 4, 5, 6, 7] rfl) (hD.sub [0, 1, 2, 3, 4, 5, 6, 7] (by decide) rfl) hK hS rfl dX5_pack_44
      · have hf := ite_e hf c1
        refine lv_aload_n hx hb dX5_pack_10 rfl (lv_at hl 1 rfl) ?_
        refine va_get (D := D) (ci := 5) (v := .ref h1_kind) (C := RX6) (T := TX6) (N := 5) hx hb hts iw_X5_pack_X6 hown hK hP 3 rfl rfl 0 (by decide) fl_25 (fun _ h9 => h9) rfl dX5_pack_11 ?_
        refine lv_iload_n hx hb dX5_pack_14 rfl (lv_at hl 2 rfl) ?_
        obtain ⟨i6, hf⟩ := gd_some hf
        refine va_iald hx hb hK hP 7 0 rfl rfl i6 dX5_pack_15 ?_
        obtain ⟨u7, g8, hf⟩ := bd_some hf
        refine g_callSi S (c_X2_goesToD l D cI cZ _ (f1_kind (x2).toNatClampNeg) u7 g8) (va_cwS 1 hts gX5_pack_X2_goesToD rfl rfl rfl (by decide +kernel) ⟨Nat.le_of_ble_eq_true rfl, Nat.le_of_ble_eq_true rfl⟩) hK hP hD hS hA [] [0, 1, 2, 3, 4, 5, 6, 7] [(h0, .inr (4, [.ref h0_leaves, .ref h0_place])), (h0_leaves, .inl (cZ, 24, .inl f0_leaves)), (h0_place, .inl (cI, 25, .inl f0_place)), (h1, .inr (5, [.ref h1_kind, .ref h1_d, .ref h1_a, .ref h1_b, .int v1_count])), (h1_a, .inl (cI, L1, .inl f1_a)), (h1_b, .inl (cI, L1, .inl f1_b)), (h1_d, .inl (cI, L1, .inl f1_d)), (h1_kind, .inl (cI, L1, .inl f1_kind))] rfl rfl (by decide) (by decide) (by decide) rfl hl.1 rfl (Nat.le_of_ble_eq_true rfl) dX5_pack_16 ⟨Nat.le_of_ble_eq_true rfl, Nat.le_of_ble_eq_true rfl⟩ (fun H locs hP hD hS => ?_)
        have hP : va_P D vwCl [(h0, .inr (4, [.ref h0_leaves, .ref h0_place])), (h0_leaves, .inl (cZ, 24, .inl f0_leaves)), (h0_place, .inl (cI, 25, .inl f0_place)), (h1, .inr (5, [.ref h1_kind, .ref h1_d, .ref h1_a, .ref h1_b, .int v1_count])), (h1_a, .inl (cI, L1, .inl f1_a)), (h1_b, .inl (cI, L1, .inl f1_b)), (h1_d, .inl (cI, L1, .inl f1_d)), (h1_kind, .inl (cI, L1, .inl f1_kind))] H := hP
        have hD : va_D A [(h0, .inr (4, [.ref h0_leaves, .ref h0_place])), (h0_leaves, .inl (cZ, 24, .inl f0_leaves)), (h0_place, .inl (cI, 25, .inl f0_place)), (h1, .inr (5, [.ref h1_kind, .ref h1_d, .ref h1_a, .ref h1_b, .int v1_count])), (h1_a, .inl (cI, L1, .inl f1_a)), (h1_b, .inl (cI, L1, .inl f1_b)), (h1_d, .inl (cI, L1, .inl f1_d)), (h1_kind, .inl (cI, L1, .inl f1_kind))] := hD
        refine lv_if_eq (tgt := 28) hx hb dX5_pack_19 (by decide) (fun c9 => ?_) (fun c9 => ?_)
        · have hf := ite_t hf c9
          refine lv_iinc (v := (x2 + (1 : Int32))) (lv' := [(2, .int (x2 + (1 : Int32))), (0, .ref h0), (1, .ref h1)]) hx hb dX5_pack_28 hl (k := 2) rfl rfl (by decide) rfl (fun ls hl => ?_)
          refine lv_goto (tgt := 2) hx hb dX5_pack_31 (by decide) ?_
          exact ih_2 _ _ _ _ _ _ _ _ _ _ ls hf (hP.sub [0, 1, 2, 3, 4, 5, 6, 7] rfl) (hD.sub [0, 1, 2, 3, 4, 5, 6, 7] (by decide) rfl) hS (lv_sub hl [1, 2, 0] rfl)
        · have hf := ite_e hf c9
          refine lv_aload_n hx hb dX5_pack_22 rfl (lv_at hl 0 rfl) ?_
          refine lv_aload_n hx hb dX5_pack_23 rfl (lv_at hl 1 rfl) ?_
          refine lv_iload_n hx hb dX5_pack_24 rfl (lv_at hl 2 rfl) ?_
          obtain ⟨u10, g11, hf⟩ := bd_some hf
          refine g_callVv S (c_X5_goFurther l D cI cZ h0 h1 h0_leaves h0_place h1_kind h1_d h1_a h1_b _ L1 f1_d f1_kind v1_count n x2 u10 g11) (cwV 2 hts gX5_pack_X5_goFurther rfl rfl rfl (by decide +kernel) ⟨Nat.le_of_ble_eq_true rfl, Nat.le_of_ble_eq_true rfl⟩) hK hP hD hS hA 0 (ci := 4) rfl rfl [0, 3, 6, 7] [1, 2, 4, 5] [(h0_leaves, .inl (cZ, 24, .inl f0_leaves)), (h0_place, .inl (cI, 25, .inl f0_place)), (h1_a, .inl (cI, L1, .inl f1_a)), (h1_b, .inl (cI, L1, .inl f1_b))] rfl rfl (by decide) (by decide) (by decide) rfl hl.1 rfl (Nat.le_of_ble_eq_true rfl) dX5_pack_25 ⟨Nat.le_of_ble_eq_true rfl, Nat.le_of_ble_eq_true rfl⟩ (fun H locs hP hD hS => ?_)
          have hP : va_P D vwCl [(h0_leaves, .inl (cZ, 24, .inl f0_leaves)), (h0_place, .inl (cI, 25, .inl f0_place)), (h1_a, .inl (cI, L1, .inl f1_a)), (h1_b, .inl (cI, L1, .inl f1_b)), (h0, .inr (4, [.ref h0_leaves, .ref h0_place])), (h1, .inr (5, [.ref h1_kind, .ref h1_d, .ref h1_a, .ref h1_b, .int v1_count])), (h1_d, .inl (cI, L1, .inl u10)), (h1_kind, .inl (cI, L1, .inl f1_kind))] H := hP
          have hD : va_D A [(h0_leaves, .inl (cZ, 24, .inl f0_leaves)), (h0_place, .inl (cI, 25, .inl f0_place)), (h1_a, .inl (cI, L1, .inl f1_a)), (h1_b, .inl (cI, L1, .inl f1_b)), (h0, .inr (4, [.ref h0_leaves, .ref h0_place])), (h1, .inr (5, [.ref h1_kind, .ref h1_d, .ref h1_a, .ref h1_b, .int v1_count])), (h1_d, .inl (cI, L1, .inl u10)), (h1_kind, .inl (cI, L1, .inl f1_kind))] := hD
          refine lv_iinc (v := (x2 + (1 : Int32))) (lv' := [(2, .int (x2 + (1 : Int32))), (0, .ref h0), (1, .ref h1)]) hx hb dX5_pack_28 hl (k := 2) rfl rfl (by decide) rfl (fun ls hl => ?_)
          refine lv_goto (tgt := 2) hx hb dX5_pack_31 (by decide) ?_
          exact ih_2 _ _ _ _ _ _ _ _ _ _ ls hf (hP.sub [4, 0, 1, 5, 2, 3, 6, 7] rfl) (hD.sub [4, 0, 1, 5, 2, 3, 6, 7] (by decide) rfl) hS (lv_sub hl [1, 2, 0] rfl)
  unfold f_X5_pack at hf
  refine lv_iconst (v := (0 : Int32)) hx hb dX5_pack_0 (by decide) ?_
  refine lv_istore_n (lv' := [(2, .int (0 : Int32)), (0, .ref h0), (1, .ref h1)]) hx hb dX5_pack_1 rfl hl (by decide) rfl (fun ls hl => ?_)
  exact hJ_2 n _ _ _ _ _ _ _ _ _ _ ls hf (hP.sub [0, 1, 2, 3, 4, 5, 6, 7] rfl) (hD.sub [0, 1, 2, 3, 4, 5, 6, 7] (by decide) rfl) hS (lv_sub hl [1, 2, 0] rfl)
