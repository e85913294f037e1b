def f_J7_fill_53178_5 (n : Nat)  : Nat → Nat → (Nat → Int32) → Int32 → Int32 → Int32 → Option (Nat → Int32)
  | 0, _, _, _, _, _ => none
  | k + 1, L0, f0, x1, x2, x3 => if x3 ≤ x2 then (some f0) else (gd x2 L0 (f_J7_fill_53178_5 n k L0 (upd f0 (x2).toNatClampNeg x1) x1 (x2 + (1 : Int32)) x3))
def f_J7_fill_53178 (n : Nat) (L0 : Nat) (f0 : (Nat → Int32)) (x1 : Int32) : Option (Nat → Int32) := f_J7_fill_53178_5 n n L0 f0 x1 (0 : Int32) (Int32.ofNat L0)
set_option maxHeartbeats 4000000 in
set_option maxRecDepth 100000 in
theorem c_J7_fill_53178 (l : Launch) (D : va_G) (cI cZ : ClassId) (h0 : Nat) (sz : Nat) (L0 : Nat) (f0 : Nat → Int32)  (n : Nat) (x1 : Int32) (res : (Nat → Int32)) (hf : f_J7_fill_53178 n L0 f0 x1 = some res) : Ct_v l yJ7_fill_53178 wsJ7_fill_53178 ({ frames := 0, cells := 0, slots := 0, locals := 0 }) D [(cI, .int), (cZ, .boolean)] [.ref h0, .int x1] sz [(h0, .inl (cI, L0, .inl f0))] [(h0, .inl (cI, L0, .inl res))] := by
  refine g_of (cc := cJ7_fill_53178) (maxL := 4) (ret := none) (QQ := (fun A => g_Qv D [(cI, .int), (cZ, .boolean)] A [(h0, .inl (cI, L0, .inl res))])) (by decide) rfl (Nat.le_of_ble_eq_true rfl) ?_
  intro p e s m args below meth c A ls S hr hlocks hA hP hK hD hl
  show W p l e ({ frames := 0, cells := 0, slots := 0, locals := 0 }) s m args below meth c s.heap [] 0 0 (MQ below (g_Qv D [(cI, .int), (cZ, .boolean)] A [(h0, .inl (cI, L0, .inl res))]) args s 0 0 A) (F0 m 0 ls [])
  have hx := S.1
  have hb := S.2.1
  have hml := S.2.2.1
  have hown := S.2.2.2.1
  have hts := S.2.2.2.2
  have hS : va_S A s.heap s.heap [] := va_S.rf
  have hl : lv_has ls 4 [(0, .ref h0), (1, .int x1)] := hl
  have hJ_5 : ∀ (k : Nat) (f0 : (Nat → Int32)) (x1 x2 x3 : Int32) (H : Heap) (locs : List Loc) (ls : Array Slot), f_J7_fill_53178_5 n k L0 f0 x1 x2 x3 = some res → va_P D vwCl [(h0, .inl (cI, L0, .inl f0))] H → va_D A [(h0, .inl (cI, L0, .inl f0))] → va_S A s.heap H locs → lv_has ls 4 [(0, .ref h0), (1, .int x1), (2, .int x2), (3, .int x3)] → W p l e ({ frames := 0, cells := 0, slots := 0, locals := 0 }) s m args below meth c H locs 0 0 (MQ below (g_Qv D [(cI, .int), (cZ, .boolean)] A [(h0, .inl (cI, L0, .inl res))]) args s 0 0 A) (F0 m 5 ls []) := by
    intro k
    induction k with
    | zero => intro f0 x1 x2 x3 H locs ls hf; rw [f_J7_fill_53178_5] at hf; cases hf
    | succ m_5 ih =>
      have ih_5 : ∀ (f0 : (Nat → Int32)) (x1 x2 x3 : Int32) (H : Heap) (locs : List Loc) (ls : Array Slot), (fun f0' x1' x2' x3' => f_J7_fill_53178_5 n m_5 L0 f0' x1' x2' x3') f0 x1 x2 x3 = some res → va_P D vwCl [(h0, .inl (cI, L0, .inl f0))] H → va_D A [(h0, .inl (cI, L0, .inl f0))] → va_S A s.heap H locs → lv_has ls 4 [(0, .ref h0), (1, .int x1), (2, .int x2), (3, .int x3)] → W p l e ({ frames := 0, cells := 0, slots := 0, locals := 0 }) s m args below meth c H locs 0 0 (MQ below (g_Qv D [(cI, .int), (cZ, .boolean)] A [(h0, .inl (cI, L0, .inl res))]) args s 0 0 A) (F0 m 5 ls []) := ih
      intro f0 x1 x2 x3 H locs ls hf hP hD hS hl
      rw [f_J7_fill_53178_5] at hf
      refine lv_iload_n hx hb dJ7_fill_53178_5 rfl (lv_at hl 2 rfl) ?_
      refine lv_iload_n hx hb dJ7_fill_53178_6 rfl (lv_at hl 3 rfl) ?_
      refine lv_icmp_ge (tgt := 20) hx hb dJ7_fill_53178_7 (by decide) (fun c1 => ?_) (fun c1 => ?_)
      · have hf := ite_t hf c1
        have hf := Option.some.inj hf
        subst hf
        exact g_vret hx hb hr hlocks (hP.sub [0] rfl) (hD.sub [0] (by decide) rfl) hK hS dJ7_fill_53178_20
      · have hf := ite_e hf c1
        refine lv_aload_n hx hb dJ7_fill_53178_10 rfl (lv_at hl 0 rfl) ?_
        refine lv_iload_n hx hb dJ7_fill_53178_11 rfl (lv_at hl 2 rfl) ?_
        refine lv_iload_n hx hb dJ7_fill_53178_12 rfl (lv_at hl 1 rfl) ?_
        obtain ⟨i2, hf⟩ := gd_some hf
        refine va_iast hx hb hK hP hD hS 0 0 rfl rfl i2 dJ7_fill_53178_13 (fun H locs hP hD hS => ?_)
        have hP : va_P D vwCl [(h0, .inl (cI, L0, .inl (upd f0 (x2).toNatClampNeg x1)))] H := hP
        have hD : va_D A [(h0, .inl (cI, L0, .inl (upd f0 (x2).toNatClampNeg x1)))] := hD
        refine lv_iinc (v := (x2 + (1 : Int32))) (lv' := [(2, .int (x2 + (1 : Int32))), (0, .ref h0), (1, .int x1), (3, .int x3)]) hx hb dJ7_fill_53178_14 hl (k := 2) rfl rfl (by decide) rfl (fun ls hl => ?_)
        refine lv_goto (tgt := 5) hx hb dJ7_fill_53178_17 (by decide) ?_
        exact ih_5 _ _ _ _ _ _ ls hf (hP.sub [0] rfl) (hD.sub [0] (by decide) rfl) hS (lv_sub hl [1, 2, 0, 3] rfl)
  unfold f_J7_fill_53178 at hf
  refine lv_iconst (v := (0 : Int32)) hx hb dJ7_fill_53178_0 (by decide) ?_
  refine lv_istore_n (lv' := [(2, .int (0 : Int32)), (0, .ref h0), (1, .int x1)]) hx hb dJ7_fill_53178_1 rfl hl (by decide) rfl (fun ls hl => ?_)
  refine lv_aload_n hx hb dJ7_fill_53178_2 rfl (lv_at hl 1 rfl) ?_
  refine va_alen (v := (Int32.ofNat L0)) hx hb hK hP 0 0 rfl rfl rfl dJ7_fill_53178_3 ?_
  refine lv_istore_n (lv' := [(3, .int (Int32.ofNat L0)), (2, .int (0 : Int32)), (0, .ref h0), (1, .int x1)]) hx hb dJ7_fill_53178_4 rfl hl (by decide) rfl (fun ls hl => ?_)
  exact hJ_5 n _ _ _ _ _ _ ls hf (hP.sub [0] rfl) (hD.sub [0] (by decide) rfl) hS (lv_sub hl [2, 3, 1, 0] rfl)
