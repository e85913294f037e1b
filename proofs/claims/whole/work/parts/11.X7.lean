def f_X7_newValue   (v0_nextValue : Int32)  : Option (Int32 × Int32) := some (((v0_nextValue + (1 : Int32)) - (1 : Int32)), (v0_nextValue + (1 : Int32)))
theorem iw_X7_newValue_X7 : ∀ w ∈ wsX70, w ∈ wsX7_newValue := by decide +kernel
set_option maxHeartbeats 4000000 in
set_option maxRecDepth 100000 in
theorem c_X7_newValue (l : Launch) (D : va_G) (cI cZ : ClassId) (h0 h0_held h0_entryKind h0_entryX h0_entryY h0_entryValue : Nat) (sz : Nat)   (v0_entries v0_nextValue : Int32)   (res : (Int32 × Int32)) (hf : f_X7_newValue v0_nextValue = some res) : Ct_i l yX7_newValue wsX7_newValue ({ frames := 0, cells := 0, slots := 0, locals := 0 }) D [(cI, .int), (cZ, .boolean)] [.ref h0] sz [(h0, .inr (6, [.ref h0_held, .ref h0_entryKind, .ref h0_entryX, .ref h0_entryY, .ref h0_entryValue, .int v0_entries, .int v0_nextValue]))] res.1 [(h0, .inr (6, [.ref h0_held, .ref h0_entryKind, .ref h0_entryX, .ref h0_entryY, .ref h0_entryValue, .int v0_entries, .int res.2]))] := by
  refine g_of (cc := cX7_newValue) (maxL := 1) (ret := some .int) (QQ := (fun A => g_Qi D [(cI, .int), (cZ, .boolean)] A res.1 [(h0, .inr (6, [.ref h0_held, .ref h0_entryKind, .ref h0_entryX, .ref h0_entryY, .ref h0_entryValue, .int v0_entries, .int res.2]))])) (by decide) rfl (Nat.le_of_ble_eq_true rfl) ?_
  intro p e s m args below meth c A ls S hr hlocks hA hP hK hD hl
  show W p l e ({ frames := 0, cells := 0, slots := 0, locals := 0 }) s m args below meth c s.heap [] 0 0 (MQ below (g_Qi D [(cI, .int), (cZ, .boolean)] A res.1 [(h0, .inr (6, [.ref h0_held, .ref h0_entryKind, .ref h0_entryX, .ref h0_entryY, .ref h0_entryValue, .int v0_entries, .int res.2]))]) args s 0 0 A) (F0 m 0 ls [])
  have hx := S.1
  have hb := S.2.1
  have hml := S.2.2.1
  have hown := S.2.2.2.1
  have hts := S.2.2.2.2
  have fl_31 := hts (.fieldLink RX7 31 "PassPipeline$Sharing" "nextValue" "I") (by decide +kernel)
  have hS : va_S A s.heap s.heap [] := va_S.rf
  have hl : lv_has ls 1 [(0, .ref h0)] := hl
  unfold f_X7_newValue at hf
  refine lv_aload_n hx hb dX7_newValue_0 rfl (lv_at hl 0 rfl) ?_
  refine lv_dup hx hb dX7_newValue_1 rfl ?_
  refine va_get (D := D) (ci := 6) (v := .int v0_nextValue) (C := RX7) (T := TX7) (N := 7) hx hb hts iw_X7_newValue_X7 hown hK hP 0 rfl rfl 6 (by decide) fl_31 (fun _ h9 => h9) rfl dX7_newValue_2 ?_
  refine lv_iconst (v := (1 : Int32)) hx hb dX7_newValue_5 (by decide) ?_
  refine lv_iadd hx hb dX7_newValue_6 ?_
  refine va_put (D := D) (ci := 6) (v := .int (v0_nextValue + (1 : Int32))) (ty := .int) (C := RX7) (T := TX7) (N := 7) hx hb hts iw_X7_newValue_X7 tyX7 tyX7_ok nmX7 hown hK hP hD hS 0 rfl rfl 6 (by decide) fl_31 (fun _ h9 => h9) rfl (by decide +kernel) rfl rfl (Nat.le_of_ble_eq_true rfl) dX7_newValue_7 (fun H locs hP hD hS => ?_)
  have hP : va_P D vwCl [(h0, .inr (6, [.ref h0_held, .ref h0_entryKind, .ref h0_entryX, .ref h0_entryY, .ref h0_entryValue, .int v0_entries, .int (v0_nextValue + (1 : Int32))]))] H := hP
  have hD : va_D A [(h0, .inr (6, [.ref h0_held, .ref h0_entryKind, .ref h0_entryX, .ref h0_entryY, .ref h0_entryValue, .int v0_entries, .int (v0_nextValue + (1 : Int32))]))] := hD
  refine lv_aload_n hx hb dX7_newValue_10 rfl (lv_at hl 0 rfl) ?_
  refine va_get (D := D) (ci := 6) (v := .int (v0_nextValue + (1 : Int32))) (C := RX7) (T := TX7) (N := 7) hx hb hts iw_X7_newValue_X7 hown hK hP 0 rfl rfl 6 (by decide) fl_31 (fun _ h9 => h9) rfl dX7_newValue_11 ?_
  refine lv_iconst (v := (1 : Int32)) hx hb dX7_newValue_14 (by decide) ?_
  refine lv_isub hx hb dX7_newValue_15 ?_
  have hf := Option.some.inj hf
  subst hf
  exact g_iret hx hb hr hlocks (hP.sub [0] rfl) (hD.sub [0] (by decide) rfl) hK hS rfl dX7_newValue_16

def f_X7_tableValue_3 (n : Nat)  : Nat → (Nat → Int32) → (Nat → Int32) → (Nat → Int32) → (Nat → Int32) → Int32 → Int32 → Int32 → Int32 → Int32 → Int32 → Option (Int32 × (Nat → Int32) × (Nat → Int32) × (Nat → Int32) × (Nat → Int32) × Int32 × Int32)
  | 0, _, _, _, _, _, _, _, _, _, _ => none
  | k + 1, f0_entryKind, f0_entryValue, f0_entryX, f0_entryY, v0_entries, v0_nextValue, x1, x2, x3, x4 => if v0_entries ≤ x4 then ((f_X7_newValue v0_nextValue).bind (fun u2 => if (24 : Int32) ≤ v0_entries then (some (u2.1, f0_entryKind, f0_entryValue, f0_entryX, f0_entryY, v0_entries, u2.2)) else (gd v0_entries 24 (gd v0_entries 24 (gd v0_entries 24 (gd v0_entries 24 (some (u2.1, (upd f0_entryKind (v0_entries).toNatClampNeg x1), (upd f0_entryValue (v0_entries).toNatClampNeg u2.1), (upd f0_entryX (v0_entries).toNatClampNeg x2), (upd f0_entryY (v0_entries).toNatClampNeg x3), (v0_entries + (1 : Int32)), u2.2)))))))) else (gd x4 24 (if (f0_entryKind (x4).toNatClampNeg) = x1 then (gd x4 24 (if (f0_entryX (x4).toNatClampNeg) = x2 then (gd x4 24 (if (f0_entryY (x4).toNatClampNeg) = x3 then (gd x4 24 (some ((f0_entryValue (x4).toNatClampNeg), f0_entryKind, f0_entryValue, f0_entryX, f0_entryY, v0_entries, v0_nextValue))) else (f_X7_tableValue_3 n k f0_entryKind f0_entryValue f0_entryX f0_entryY v0_entries v0_nextValue x1 x2 x3 (x4 + (1 : Int32))))) else (f_X7_tableValue_3 n k f0_entryKind f0_entryValue f0_entryX f0_entryY v0_entries v0_nextValue x1 x2 x3 (x4 + (1 : Int32))))) else (f_X7_tableValue_3 n k f0_entryKind f0_entryValue f0_entryX f0_entryY v0_entries v0_nextValue x1 x2 x3 (x4 + (1 : Int32)))))
def f_X7_tableValue (n : Nat)  (f0_entryKind : (Nat → Int32)) (f0_entryValue : (Nat → Int32)) (f0_entryX : (Nat → Int32)) (f0_entryY : (Nat → Int32)) (v0_entries : Int32) (v0_nextValue : Int32) (x1 x2 x3 : Int32) : Option (Int32 × (Nat → Int32) × (Nat → Int32) × (Nat → Int32) × (Nat → Int32) × Int32 × Int32) := f_X7_tableValue_3 n n f0_entryKind f0_entryValue f0_entryX f0_entryY v0_entries v0_nextValue x1 x2 x3 (0 : Int32)
theorem iw_X7_tableValue_X7 : ∀ w ∈ wsX70, w ∈ wsX7_tableValue := by decide +kernel
set_option maxHeartbeats 4000000 in
set_option maxRecDepth 100000 in
theorem c_X7_tableValue (l : Launch) (D : va_G) (cI cZ : ClassId) (h0 h0_held h0_entryKind h0_entryX h0_entryY h0_entryValue : Nat) (sz : Nat)  (f0_entryKind f0_entryValue f0_entryX f0_entryY : Nat → Int32) (v0_entries v0_nextValue : Int32) (n : Nat) (x1 x2 x3 : Int32) (res : (Int32 × (Nat → Int32) × (Nat → Int32) × (Nat → Int32) × (Nat → Int32) × Int32 × Int32)) (hf : f_X7_tableValue n f0_entryKind f0_entryValue f0_entryX f0_entryY v0_entries v0_nextValue x1 x2 x3 = some res) : Ct_i l yX7_tableValue wsX7_tableValue ({ frames := 1, cells := 0, slots := 0, locals := 20 }) D [(cI, .int), (cZ, .boolean)] [.ref h0, .int x1, .int x2, .int x3] sz [(h0, .inr (6, [.ref h0_held, .ref h0_entryKind, .ref h0_entryX, .ref h0_entryY, .ref h0_entryValue, .int v0_entries, .int v0_nextValue])), (h0_entryKind, .inl (cI, 24, .inl f0_entryKind)), (h0_entryValue, .inl (cI, 24, .inl f0_entryValue)), (h0_entryX, .inl (cI, 24, .inl f0_entryX)), (h0_entryY, .inl (cI, 24, .inl f0_entryY))] res.1 [(h0, .inr (6, [.ref h0_held, .ref h0_entryKind, .ref h0_entryX, .ref h0_entryY, .ref h0_entryValue, .int res.2.2.2.2.2.1, .int res.2.2.2.2.2.2])), (h0_entryKind, .inl (cI, 24, .inl res.2.1)), (h0_entryValue, .inl (cI, 24, .inl res.2.2.1)), (h0_entryX, .inl (cI, 24, .inl res.2.2.2.1)), (h0_entryY, .inl (cI, 24, .inl res.2.2.2.2.1))] := by
  refine g_of (cc := cX7_tableValue) (maxL := 5) (ret := some .int) (QQ := (fun A => g_Qi D [(cI, .int), (cZ, .boolean)] A res.1 [(h0, .inr (6, [.ref h0_held, .ref h0_entryKind, .ref h0_entryX, .ref h0_entryY, .ref h0_entryValue, .int res.2.2.2.2.2.1, .int res.2.2.2.2.2.2])), (h0_entryKind, .inl (cI, 24, .inl res.2.1)), (h0_entryValue, .inl (cI, 24, .inl res.2.2.1)), (h0_entryX, .inl (cI, 24, .inl res.2.2.2.1)), (h0_entryY, .inl (cI, 24, .inl res.2.2.2.2.1))])) (by decide) rfl (Nat.le_of_ble_eq_true rfl) ?_
  intro p e s m args below meth c A ls S hr hlocks hA hP hK hD hl
  show W p l e ({ frames := 1, cells := 0, slots := 0, locals := 20 }) s m args below meth c s.heap [] 0 0 (MQ below (g_Qi D [(cI, .int), (cZ, .boolean)] A res.1 [(h0, .inr (6, [.ref h0_held, .ref h0_entryKind, .ref h0_entryX, .ref h0_entryY, .ref h0_entryValue, .int res.2.2.2.2.2.1, .int res.2.2.2.2.2.2])), (h0_entryKind, .inl (cI, 24, .inl res.2.1)), (h0_entryValue, .inl (cI, 24, .inl res.2.2.1)), (h0_entryX, .inl (cI, 24, .inl res.2.2.2.1)), (h0_entryY, .inl (cI, 24, .inl res.2.2.2.2.1))]) args s 0 0 A) (F0 m 0 ls [])
  have hx := S.1
  have hb := S.2.1
  have hml := S.2.2.1
  have hown := S.2.2.2.1
  have hts := S.2.2.2.2
  have fl_15 := hts (.fieldLink RX7 15 "PassPipeline$Sharing" "entryKind" "[I") (by decide +kernel)
  have fl_18 := hts (.fieldLink RX7 18 "PassPipeline$Sharing" "entryX" "[I") (by decide +kernel)
  have fl_21 := hts (.fieldLink RX7 21 "PassPipeline$Sharing" "entryY" "[I") (by decide +kernel)
  have fl_24 := hts (.fieldLink RX7 24 "PassPipeline$Sharing" "entryValue" "[I") (by decide +kernel)
  have fl_27 := hts (.fieldLink RX7 27 "PassPipeline$Sharing" "entries" "I") (by decide +kernel)
  have hS : va_S A s.heap s.heap [] := va_S.rf
  have hl : lv_has ls 5 [(0, .ref h0), (1, .int x1), (2, .int x2), (3, .int x3)] := hl
  have hJ_3 : ∀ (k : Nat) (f0_entryKind : (Nat → Int32)) (f0_entryValue : (Nat → Int32)) (f0_entryX : (Nat → Int32)) (f0_entryY : (Nat → Int32)) (v0_entries : Int32) (v0_nextValue : Int32) (x1 x2 x3 x4 : Int32) (H : Heap) (locs : List Loc) (ls : Array Slot), f_X7_tableValue_3 n k f0_entryKind f0_entryValue f0_entryX f0_entryY v0_entries v0_nextValue x1 x2 x3 x4 = some res → va_P D vwCl [(h0, .inr (6, [.ref h0_held, .ref h0_entryKind, .ref h0_entryX, .ref h0_entryY, .ref h0_entryValue, .int v0_entries, .int v0_nextValue])), (h0_entryKind, .inl (cI, 24, .inl f0_entryKind)), (h0_entryValue, .inl (cI, 24, .inl f0_entryValue)), (h0_entryX, .inl (cI, 24, .inl f0_entryX)), (h0_entryY, .inl (cI, 24, .inl f0_entryY))] H → va_D A [(h0, .inr (6, [.ref h0_held, .ref h0_entryKind, .ref h0_entryX, .ref h0_entryY, .ref h0_entryValue, .int v0_entries, .int v0_nextValue])), (h0_entryKind, .inl (cI, 24, .inl f0_entryKind)), (h0_entryValue, .inl (cI, 24, .inl f0_entryValue)), (h0_entryX, .inl (cI, 24, .inl f0_entryX)), (h0_entryY, .inl (cI, 24, .inl f0_entryY))] → va_S A s.heap H locs → lv_has ls 5 [(0, .ref h0), (1, .int x1), (2, .int x2), (3, .int x3), (4, .int x4)] → W p l e ({ frames := 1, cells := 0, slots := 0, locals := 20 }) s m args below meth c H locs 0 0 (MQ below (g_Qi D [(cI, .int), (cZ, .boolean)] A res.1 [(h0, .inr (6, [.ref h0_held, .ref h0_entryKind, .ref h0_entryX, .ref h0_entryY, .ref h0_entryValue, .int res.2.2.2.2.2.1, .int res.2.2.2.2.2.2])), (h0_entryKind, .inl (cI, 24, .inl res.2.1)), (h0_entryValue, .inl (cI, 24, .inl res.2.2.1)), (h0_entryX, .inl (cI, 24, .inl res.2.2.2.1)), (h0_entryY, .inl (cI, 24, .inl res.2.2.2.2.1))]) args s 0 0 A) (F0 m 3 ls []) := by
    intro k
    induction k with
    | zero => intro f0_entryKind f0_entryValue f0_entryX f0_entryY v0_entries v0_nextValue x1 x2 x3 x4 H locs ls hf; rw [f_X7_tableValue_3] at hf; cases hf
    | succ m_3 ih =>
      have ih_3 : ∀ (f0_entryKind : (Nat → Int32)) (f0_entryValue : (Nat → Int32)) (f0_entryX : (Nat → Int32)) (f0_entryY : (Nat → Int32)) (v0_entries : Int32) (v0_nextValue : Int32) (x1 x2 x3 x4 : Int32) (H : Heap) (locs : List Loc) (ls : Array Slot), (fun f0_entryKind' f0_entryValue' f0_entryX' f0_entryY' v0_entries' v0_nextValue' x1' x2' x3' x4' => f_X7_tableValue_3 n m_3 f0_entryKind' f0_entryValue' f0_entryX' f0_entryY' v0_entries' v0_nextValue' x1' x2' x3' x4') f0_entryKind f0_entryValue f0_entryX f0_entryY v0_entries v0_nextValue x1 x2 x3 x4 = some res → va_P D vwCl [(h0, .inr (6, [.ref h0_held, .ref h0_entryKind, .ref h0_entryX, .ref h0_entryY, .ref h0_entryValue, .int v0_entries, .int v0_nextValue])), (h0_entryKind, .inl (cI, 24, .inl f0_entryKind)), (h0_entryValue, .inl (cI, 24, .inl f0_entryValue)), (h0_entryX, .inl (cI, 24, .inl f0_entryX)), (h0_entryY, .inl (cI, 24, .inl f0_entryY))] H → va_D A [(h0, .inr (6, [.ref h0_held, .ref h0_entryKind, .ref h0_entryX, .ref h0_entryY, .ref h0_entryValue, .int v0_entries, .int v0_nextValue])), (h0_entryKind, .inl (cI, 24, .inl f0_entryKind)), (h0_entryValue, .inl (cI, 24, .inl f0_entryValue)), (h0_entryX, .inl (cI, 24, .inl f0_entryX)), (h0_entryY, .inl (cI, 24, .inl f0_entryY))] → va_S A s.heap H locs → lv_has ls 5 [(0, .ref h0), (1, .int x1), (2, .int x2), (3, .int x3), (4, .int x4)] → W p l e ({ frames := 1, cells := 0, slots := 0, locals := 20 }) s m args below meth c H locs 0 0 (MQ below (g_Qi D [(cI, .int), (cZ, .boolean)] A res.1 [(h0, .inr (6, [.ref h0_held, .ref h0_entryKind, .ref h0_entryX, .ref h0_entryY, .ref h0_entryValue, .int res.2.2.2.2.2.1, .int res.2.2.2.2.2.2])), (h0_entryKind, .inl (cI, 24, .inl res.2.1)), (h0_entryValue, .inl (cI, 24, .inl res.2.2.1)), (h0_entryX, .inl (cI, 24, .inl res.2.2.2.1)), (h0_entryY, .inl (cI, 24, .inl res.2.2.2.2.1))]) args s 0 0 A) (F0 m 3 ls []) := ih
      intro f0_entryKind f0_entryValue f0_entryX f0_entryY v0_entries v0_nextValue x1 x2 x3 x4 H locs ls hf hP hD hS hl
      rw [f_X7_tableValue_3] at hf
      refine lv_iload hx hb dX7_tableValue_3 (lv_at hl 4 rfl) ?_
      refine lv_aload_n hx hb dX7_tableValue_5 rfl (lv_at hl 0 rfl) ?_
      refine va_get (D := D) (ci := 6) (v := .int v0_entries) (C := RX7) (T := TX7) (N := 7) hx hb hts iw_X7_tableValue_X7 hown hK hP 0 rfl rfl 5 (by decide) fl_27 (fun _ h9 => h9) rfl dX7_tableValue_6 ?_
      refine lv_icmp_ge (tgt := 59) hx hb dX7_tableValue_9 (by decide) (fun c1 => ?_) (fun c1 => ?_)
      · have hf := ite_t hf c1
        refine lv_aload_n hx hb dX7_tableValue_59 rfl (lv_at hl 0 rfl) ?_
        obtain ⟨u2, g3, hf⟩ := bd_some hf
        refine g_callVi S (c_X7_newValue l D cI cZ h0 h0_held h0_entryKind h0_entryX h0_entryY h0_entryValue _ v0_entries v0_nextValue u2 g3) (cwV 0 hts gX7_tableValue_X7_newValue rfl rfl rfl (by decide +kernel) ⟨Nat.le_of_ble_eq_true rfl, Nat.le_of_ble_eq_true rfl⟩) hK hP hD hS hA 0 (ci := 6) rfl rfl [0] [1, 2, 3, 4] [(h0_entryKind, .inl (cI, 24, .inl f0_entryKind)), (h0_entryValue, .inl (cI, 24, .inl f0_entryValue)), (h0_entryX, .inl (cI, 24, .inl f0_entryX)), (h0_entryY, .inl (cI, 24, .inl f0_entryY))] rfl rfl (by decide) (by decide) (by decide) rfl hl.1 rfl (Nat.le_of_ble_eq_true rfl) dX7_tableValue_60 ⟨Nat.le_of_ble_eq_true rfl, Nat.le_of_ble_eq_true rfl⟩ (fun H locs hP hD hS => ?_)
        have hP : va_P D vwCl [(h0_entryKind, .inl (cI, 24, .inl f0_entryKind)), (h0_entryValue, .inl (cI, 24, .inl f0_entryValue)), (h0_entryX, .inl (cI, 24, .inl f0_entryX)), (h0_entryY, .inl (cI, 24, .inl f0_entryY)), (h0, .inr (6, [.ref h0_held, .ref h0_entryKind, .ref h0_entryX, .ref h0_entryY, .ref h0_entryValue, .int v0_entries, .int u2.2]))] H := hP
        have hD : va_D A [(h0_entryKind, .inl (cI, 24, .inl f0_entryKind)), (h0_entryValue, .inl (cI, 24, .inl f0_entryValue)), (h0_entryX, .inl (cI, 24, .inl f0_entryX)), (h0_entryY, .inl (cI, 24, .inl f0_entryY)), (h0, .inr (6, [.ref h0_held, .ref h0_entryKind, .ref h0_entryX, .ref h0_entryY, .ref h0_entryValue, .int v0_entries, .int u2.2]))] := hD
        refine lv_istore (lv' := [(4, .int u2.1), (0, .ref h0), (1, .int x1), (2, .int x2), (3, .int x3)]) hx hb dX7_tableValue_63 hl (by decide) rfl (fun ls hl => ?_)
        refine lv_aload_n hx hb dX7_tableValue_65 rfl (lv_at hl 1 rfl) ?_
        refine va_get (D := D) (ci := 6) (v := .int v0_entries) (C := RX7) (T := TX7) (N := 7) hx hb hts iw_X7_tableValue_X7 hown hK hP 4 rfl rfl 5 (by decide) fl_27 (fun _ h9 => h9) rfl dX7_tableValue_66 ?_
        refine lv_bipush (v := (24 : Int32)) hx hb dX7_tableValue_69 (by decide +kernel) ?_
        refine lv_icmp_ge (tgt := 125) hx hb dX7_tableValue_71 (by decide) (fun c4 => ?_) (fun c4 => ?_)
        · have hf := ite_t hf c4
          refine lv_iload hx hb dX7_tableValue_125 (lv_at hl 0 rfl) ?_
          have hf := Option.some.inj hf
          subst hf
          exact g_iret hx hb hr hlocks (hP.sub [4, 0, 1, 2, 3] rfl) (hD.sub [4, 0, 1, 2, 3] (by decide) rfl) hK hS rfl dX7_tableValue_127
        · have hf := ite_e hf c4
          refine lv_aload_n hx hb dX7_tableValue_74 rfl (lv_at hl 1 rfl) ?_
          refine va_get (D := D) (ci := 6) (v := .ref h0_entryKind) (C := RX7) (T := TX7) (N := 7) hx hb hts iw_X7_tableValue_X7 hown hK hP 4 rfl rfl 1 (by decide) fl_15 (fun _ h9 => h9) rfl dX7_tableValue_75 ?_
          refine lv_aload_n hx hb dX7_tableValue_78 rfl (lv_at hl 1 rfl) ?_
          refine va_get (D := D) (ci := 6) (v := .int v0_entries) (C := RX7) (T := TX7) (N := 7) hx hb hts iw_X7_tableValue_X7 hown hK hP 4 rfl rfl 5 (by decide) fl_27 (fun _ h9 => h9) rfl dX7_tableValue_79 ?_
          refine lv_iload_n hx hb dX7_tableValue_82 rfl (lv_at hl 2 rfl) ?_
          obtain ⟨i5, hf⟩ := gd_some hf
          refine va_iast hx hb hK hP hD hS 0 0 rfl rfl i5 dX7_tableValue_83 (fun H locs hP hD hS => ?_)
          have hP : va_P D vwCl [(h0_entryKind, .inl (cI, 24, .inl (upd f0_entryKind (v0_entries).toNatClampNeg x1))), (h0_entryValue, .inl (cI, 24, .inl f0_entryValue)), (h0_entryX, .inl (cI, 24, .inl f0_entryX)), (h0_entryY, .inl (cI, 24, .inl f0_entryY)), (h0, .inr (6, [.ref h0_held, .ref h0_entryKind, .ref h0_entryX, .ref h0_entryY, .ref h0_entryValue, .int v0_entries, .int u2.2]))] H := hP
          have hD : va_D A [(h0_entryKind, .inl (cI, 24, .inl (upd f0_entryKind (v0_entries).toNatClampNeg x1))), (h0_entryValue, .inl (cI, 24, .inl f0_entryValue)), (h0_entryX, .inl (cI, 24, .inl f0_entryX)), (h0_entryY, .inl (cI, 24, .inl f0_entryY)), (h0, .inr (6, [.ref h0_held, .ref h0_entryKind, .ref h0_entryX, .ref h0_entryY, .ref h0_entryValue, .int v0_entries, .int u2.2]))] := hD
          refine lv_aload_n hx hb dX7_tableValue_84 rfl (lv_at hl 1 rfl) ?_
          refine va_get (D := D) (ci := 6) (v := .ref h0_entryX) (C := RX7) (T := TX7) (N := 7) hx hb hts iw_X7_tableValue_X7 hown hK hP 4 rfl rfl 2 (by decide) fl_18 (fun _ h9 => h9) rfl dX7_tableValue_85 ?_
          refine lv_aload_n hx hb dX7_tableValue_88 rfl (lv_at hl 1 rfl) ?_
          refine va_get (D := D) (ci := 6) (v := .int v0_entries) (C := RX7) (T := TX7) (N := 7) hx hb hts iw_X7_tableValue_X7 hown hK hP 4 rfl rfl 5 (by decide) fl_27 (fun _ h9 => h9) rfl dX7_tableValue_89 ?_
          refine lv_iload_n hx hb dX7_tableValue_92 rfl (lv_at hl 3 rfl) ?_
          obtain ⟨i6, hf⟩ := gd_some hf
          refine va_iast hx hb hK hP hD hS 2 0 rfl rfl i6 dX7_tableValue_93 (fun H locs hP hD hS => ?_)
          have hP : va_P D vwCl [(h0_entryKind, .inl (cI, 24, .inl (upd f0_entryKind (v0_entries).toNatClampNeg x1))), (h0_entryValue, .inl (cI, 24, .inl f0_entryValue)), (h0_entryX, .inl (cI, 24, .inl (upd f0_entryX (v0_entries).toNatClampNeg x2))), (h0_entryY, .inl (cI, 24, .inl f0_entryY)), (h0, .inr (6, [.ref h0_held, .ref h0_entryKind, .ref h0_entryX, .ref h0_entryY, .ref h0_entryValue, .int v0_entries, .int u2.2]))] H := hP
          have hD : va_D A [(h0_entryKind, .inl (cI, 24, .inl (upd f0_entryKind (v0_entries).toNatClampNeg x1))), (h0_entryValue, .inl (cI, 24, .inl f0_entryValue)), (h0_entryX, .inl (cI, 24, .inl (upd f0_entryX (v0_entries).toNatClampNeg x2))), (h0_entryY, .inl (cI, 24, .inl f0_entryY)), (h0, .inr (6, [.ref h0_held, .ref h0_entryKind, .ref h0_entryX, .ref h0_entryY, .ref h0_entryValue, .int v0_entries, .int u2.2]))] := hD
          refine lv_aload_n hx hb dX7_tableValue_94 rfl (lv_at hl 1 rfl) ?_
          refine va_get (D := D) (ci := 6) (v := .ref h0_entryY) (C := RX7) (T := TX7) (N := 7) hx hb hts iw_X7_tableValue_X7 hown hK hP 4 rfl rfl 3 (by decide) fl_21 (fun _ h9 => h9) rfl dX7_tableValue_95 ?_
          refine lv_aload_n hx hb dX7_tableValue_98 rfl (lv_at hl 1 rfl) ?_
          refine va_get (D := D) (ci := 6) (v := .int v0_entries) (C := RX7) (T := TX7) (N := 7) hx hb hts iw_X7_tableValue_X7 hown hK hP 4 rfl rfl 5 (by decide) fl_27 (fun _ h9 => h9) rfl dX7_tableValue_99 ?_
          refine lv_iload_n hx hb dX7_tableValue_102 rfl (lv_at hl 4 rfl) ?_
          obtain ⟨i7, hf⟩ := gd_some hf
          refine va_iast hx hb hK hP hD hS 3 0 rfl rfl i7 dX7_tableValue_103 (fun H locs hP hD hS => ?_)
          have hP : va_P D vwCl [(h0_entryKind, .inl (cI, 24, .inl (upd f0_entryKind (v0_entries).toNatClampNeg x1))), (h0_entryValue, .inl (cI, 24, .inl f0_entryValue)), (h0_entryX, .inl (cI, 24, .inl (upd f0_entryX (v0_entries).toNatClampNeg x2))), (h0_entryY, .inl (cI, 24, .inl (upd f0_entryY (v0_entries).toNatClampNeg x3))), (h0, .inr (6, [.ref h0_held, .ref h0_entryKind, .ref h0_entryX, .ref h0_entryY, .ref h0_entryValue, .int v0_entries, .int u2.2]))] H := hP
          have hD : va_D A [(h0_entryKind, .inl (cI, 24, .inl (upd f0_entryKind (v0_entries).toNatClampNeg x1))), (h0_entryValue, .inl (cI, 24, .inl f0_entryValue)), (h0_entryX, .inl (cI, 24, .inl (upd f0_entryX (v0_entries).toNatClampNeg x2))), (h0_entryY, .inl (cI, 24, .inl (upd f0_entryY (v0_entries).toNatClampNeg x3))), (h0, .inr (6, [.ref h0_held, .ref h0_entryKind, .ref h0_entryX, .ref h0_entryY, .ref h0_entryValue, .int v0_entries, .int u2.2]))] := hD
          refine lv_aload_n hx hb dX7_tableValue_104 rfl (lv_at hl 1 rfl) ?_
          refine va_get (D := D) (ci := 6) (v := .ref h0_entryValue) (C := RX7) (T := TX7) (N := 7) hx hb hts iw_X7_tableValue_X7 hown hK hP 4 rfl rfl 4 (by decide) fl_24 (fun _ h9 => h9) rfl dX7_tableValue_105 ?_
          refine lv_aload_n hx hb dX7_tableValue_108 rfl (lv_at hl 1 rfl) ?_
          refine va_get (D := D) (ci := 6) (v := .int v0_entries) (C := RX7) (T := TX7) (N := 7) hx hb hts iw_X7_tableValue_X7 hown hK hP 4 rfl rfl 5 (by decide) fl_27 (fun _ h9 => h9) rfl dX7_tableValue_109 ?_
          refine lv_iload hx hb dX7_tableValue_112 (lv_at hl 0 rfl) ?_
          obtain ⟨i8, hf⟩ := gd_some hf
          refine va_iast hx hb hK hP hD hS 1 0 rfl rfl i8 dX7_tableValue_114 (fun H locs hP hD hS => ?_)
          have hP : va_P D vwCl [(h0_entryKind, .inl (cI, 24, .inl (upd f0_entryKind (v0_entries).toNatClampNeg x1))), (h0_entryValue, .inl (cI, 24, .inl (upd f0_entryValue (v0_entries).toNatClampNeg u2.1))), (h0_entryX, .inl (cI, 24, .inl (upd f0_entryX (v0_entries).toNatClampNeg x2))), (h0_entryY, .inl (cI, 24, .inl (upd f0_entryY (v0_entries).toNatClampNeg x3))), (h0, .inr (6, [.ref h0_held, .ref h0_entryKind, .ref h0_entryX, .ref h0_entryY, .ref h0_entryValue, .int v0_entries, .int u2.2]))] H := hP
          have hD : va_D A [(h0_entryKind, .inl (cI, 24, .inl (upd f0_entryKind (v0_entries).toNatClampNeg x1))), (h0_entryValue, .inl (cI, 24, .inl (upd f0_entryValue (v0_entries).toNatClampNeg u2.1))), (h0_entryX, .inl (cI, 24, .inl (upd f0_entryX (v0_entries).toNatClampNeg x2))), (h0_entryY, .inl (cI, 24, .inl (upd f0_entryY (v0_entries).toNatClampNeg x3))), (h0, .inr (6, [.ref h0_held, .ref h0_entryKind, .ref h0_entryX, .ref h0_entryY, .ref h0_entryValue, .int v0_entries, .int u2.2]))] := hD
          refine lv_aload_n hx hb dX7_tableValue_115 rfl (lv_at hl 1 rfl) ?_
          refine lv_dup hx hb dX7_tableValue_116 rfl ?_
          refine va_get (D := D) (ci := 6) (v := .int v0_entries) (C := RX7) (T := TX7) (N := 7) hx hb hts iw_X7_tableValue_X7 hown hK hP 4 rfl rfl 5 (by decide) fl_27 (fun _ h9 => h9) rfl dX7_tableValue_117 ?_
          refine lv_iconst (v := (1 : Int32)) hx hb dX7_tableValue_120 (by decide) ?_
          refine lv_iadd hx hb dX7_tableValue_121 ?_
          refine va_put (D := D) (ci := 6) (v := .int (v0_entries + (1 : Int32))) (ty := .int) (C := RX7) (T := TX7) (N := 7) hx hb hts iw_X7_tableValue_X7 tyX7 tyX7_ok nmX7 hown hK hP hD hS 4 rfl rfl 5 (by decide) fl_27 (fun _ h9 => h9) rfl (by decide +kernel) rfl rfl (Nat.le_of_ble_eq_true rfl) dX7_tableValue_122 (fun H locs hP hD hS => ?_)
          have hP : va_P D vwCl [(h0_entryKind, .inl (cI, 24, .inl (upd f0_entryKind (v0_entries).toNatClampNeg x1))), (h0_entryValue, .inl (cI, 24, .inl (upd f0_entryValue (v0_entries).toNatClampNeg u2.1))), (h0_entryX, .inl (cI, 24, .inl (upd f0_entryX (v0_entries).toNatClampNeg x2))), (h0_entryY, .inl (cI, 24, .inl (upd f0_entryY (v0_entries).toNatClampNeg x3))), (h0, .inr (6, [.ref h0_held, .ref h0_entryKind, .ref h0_entryX, .ref h0_entryY, .ref h0_entryValue, .int (v0_entries + (1 : Int32)), .int u2.2]))] H := hP
          have hD : va_D A [(h0_entryKind, .inl (cI, 24, .inl (upd f0_entryKind (v0_entries).toNatClampNeg x1))), (h0_entryValue, .inl (cI, 24, .inl (upd f0_entryValue (v0_entries).toNatClampNeg u2.1))), (h0_entryX, .inl (cI, 24, .inl (upd f0_entryX (v0_entries).toNatClampNeg x2))), (h0_entryY, .inl (cI, 24, .inl (upd f0_entryY (v0_entries).toNatClampNeg x3))), (h0, .inr (6, [.ref h0_held, .ref h0_entryKind, .ref h0_entryX, .ref h0_entryY, .ref h0_entryValue, .int (v0_entries + (1 : Int32)), .int u2.2]))] := hD
          refine lv_iload hx hb dX7_tableValue_125 (lv_at hl 0 rfl) ?_
          have hf := Option.some.inj hf
          subst hf
          exact g_iret hx hb hr hlocks (hP.sub [4, 0, 1, 2, 3] rfl) (hD.sub [4, 0, 1, 2, 3] (by decide) rfl) hK hS rfl dX7_tableValue_127
      · have hf := ite_e hf c1
        refine lv_aload_n hx hb dX7_tableValue_12 rfl (lv_at hl 0 rfl) ?_
        refine va_get (D := D) (ci := 6) (v := .ref h0_entryKind) (C := RX7) (T := TX7) (N := 7) hx hb hts iw_X7_tableValue_X7 hown hK hP 0 rfl rfl 1 (by decide) fl_15 (fun _ h9 => h9) rfl dX7_tableValue_13 ?_
        refine lv_iload hx hb dX7_tableValue_16 (lv_at hl 4 rfl) ?_
        obtain ⟨i9, hf⟩ := gd_some hf
        refine va_iald hx hb hK hP 1 0 rfl rfl i9 dX7_tableValue_18 ?_
        refine lv_iload_n hx hb dX7_tableValue_19 rfl (lv_at hl 1 rfl) ?_
        refine lv_icmp_ne (tgt := 53) hx hb dX7_tableValue_20 (by decide) (fun c10 => ?_) (fun c10 => ?_)
        · have hf := ite_e hf c10
          refine lv_iinc (v := (x4 + (1 : Int32))) (lv' := [(4, .int (x4 + (1 : Int32))), (0, .ref h0), (1, .int x1), (2, .int x2), (3, .int x3)]) hx hb dX7_tableValue_53 hl (k := 4) rfl rfl (by decide) rfl (fun ls hl => ?_)
          refine lv_goto (tgt := 3) hx hb dX7_tableValue_56 (by decide) ?_
          exact ih_3 _ _ _ _ _ _ _ _ _ _ _ _ ls hf (hP.sub [0, 1, 2, 3, 4] rfl) (hD.sub [0, 1, 2, 3, 4] (by decide) rfl) hS (lv_sub hl [1, 2, 3, 4, 0] rfl)
        · have hf := ite_t hf c10
          refine lv_aload_n hx hb dX7_tableValue_23 rfl (lv_at hl 0 rfl) ?_
          refine va_get (D := D) (ci := 6) (v := .ref h0_entryX) (C := RX7) (T := TX7) (N := 7) hx hb hts iw_X7_tableValue_X7 hown hK hP 0 rfl rfl 2 (by decide) fl_18 (fun _ h9 => h9) rfl dX7_tableValue_24 ?_
          refine lv_iload hx hb dX7_tableValue_27 (lv_at hl 4 rfl) ?_
          obtain ⟨i11, hf⟩ := gd_some hf
          refine va_iald hx hb hK hP 3 0 rfl rfl i11 dX7_tableValue_29 ?_
          refine lv_iload_n hx hb dX7_tableValue_30 rfl (lv_at hl 2 rfl) ?_
          refine lv_icmp_ne (tgt := 53) hx hb dX7_tableValue_31 (by decide) (fun c12 => ?_) (fun c12 => ?_)
          · have hf := ite_e hf c12
            refine lv_iinc (v := (x4 + (1 : Int32))) (lv' := [(4, .int (x4 + (1 : Int32))), (0, .ref h0), (1, .int x1), (2, .int x2), (3, .int x3)]) hx hb dX7_tableValue_53 hl (k := 4) rfl rfl (by decide) rfl (fun ls hl => ?_)
            refine lv_goto (tgt := 3) hx hb dX7_tableValue_56 (by decide) ?_
            exact ih_3 _ _ _ _ _ _ _ _ _ _ _ _ ls hf (hP.sub [0, 1, 2, 3, 4] rfl) (hD.sub [0, 1, 2, 3, 4] (by decide) rfl) hS (lv_sub hl [1, 2, 3, 4, 0] rfl)
          · have hf := ite_t hf c12
            refine lv_aload_n hx hb dX7_tableValue_34 rfl (lv_at hl 0 rfl) ?_
            refine va_get (D := D) (ci := 6) (v := .ref h0_entryY) (C := RX7) (T := TX7) (N := 7) hx hb hts iw_X7_tableValue_X7 hown hK hP 0 rfl rfl 3 (by decide) fl_21 (fun _ h9 => h9) rfl dX7_tableValue_35 ?_
            refine lv_iload hx hb dX7_tableValue_38 (lv_at hl 4 rfl) ?_
            obtain ⟨i13, hf⟩ := gd_some hf
            refine va_iald hx hb hK hP 4 0 rfl rfl i13 dX7_tableValue_40 ?_
            refine lv_iload_n hx hb dX7_tableValue_41 rfl (lv_at hl 3 rfl) ?_
            refine lv_icmp_ne (tgt := 53) hx hb dX7_tableValue_42 (by decide) (fun c14 => ?_) (fun c14 => ?_)
            · have hf := ite_e hf c14
              refine lv_iinc (v := (x4 + (1 : Int32))) (lv' := [(4, .int (x4 + (1 : Int32))), (0, .ref h0), (1, .int x1), (2, .int x2), (3, .int x3)]) hx hb dX7_tableValue_53 hl (k := 4) rfl rfl (by decide) rfl (fun ls hl => ?_)
              refine lv_goto (tgt := 3) hx hb dX7_tableValue_56 (by decide) ?_
              exact ih_3 _ _ _ _ _ _ _ _ _ _ _ _ ls hf (hP.sub [0, 1, 2, 3, 4] rfl) (hD.sub [0, 1, 2, 3, 4] (by decide) rfl) hS (lv_sub hl [1, 2, 3, 4, 0] rfl)
            · have hf := ite_t hf c14
              refine lv_aload_n hx hb dX7_tableValue_45 rfl (lv_at hl 0 rfl) ?_
              refine va_get (D := D) (ci := 6) (v := .ref h0_entryValue) (C := RX7) (T := TX7) (N := 7) hx hb hts iw_X7_tableValue_X7 hown hK hP 0 rfl rfl 4 (by decide) fl_24 (fun _ h9 => h9) rfl dX7_tableValue_46 ?_
              refine lv_iload hx hb dX7_tableValue_49 (lv_at hl 4 rfl) ?_
              obtain ⟨i15, hf⟩ := gd_some hf
              refine va_iald hx hb hK hP 2 0 rfl rfl i15 dX7_tableValue_51 ?_
              have hf := Option.some.inj hf
              subst hf
              exact g_iret hx hb hr hlocks (hP.sub [0, 1, 2, 3, 4] rfl) (hD.sub [0, 1, 2, 3, 4] (by decide) rfl) hK hS rfl dX7_tableValue_52
  unfold f_X7_tableValue at hf
  refine lv_iconst (v := (0 : Int32)) hx hb dX7_tableValue_0 (by decide) ?_
  refine lv_istore (lv' := [(4, .int (0 : Int32)), (0, .ref h0), (1, .int x1), (2, .int x2), (3, .int x3)]) hx hb dX7_tableValue_1 hl (by decide) rfl (fun ls hl => ?_)
  exact hJ_3 n _ _ _ _ _ _ _ _ _ _ _ _ ls hf (hP.sub [0, 1, 2, 3, 4] rfl) (hD.sub [0, 1, 2, 3, 4] (by decide) rfl) hS (lv_sub hl [1, 2, 3, 4, 0] rfl)

def f_X7_givenValue (n : Nat)  (f0_entryKind : (Nat → Int32)) (f0_entryValue : (Nat → Int32)) (f0_entryX : (Nat → Int32)) (f0_entryY : (Nat → Int32)) (f0_held : (Nat → Int32)) (v0_entries : Int32) (v0_nextValue : Int32) (x1 x2 x3 : Int32) : Option (Int32 × (Nat → Int32) × (Nat → Int32) × (Nat → Int32) × (Nat → Int32) × Int32 × Int32) := if x1 = (1 : Int32) then ((f_X7_tableValue n f0_entryKind f0_entryValue f0_entryX f0_entryY v0_entries v0_nextValue (1 : Int32) x2 (0 : Int32)).bind (fun u2 => some (u2.1, u2.2.1, u2.2.2.1, u2.2.2.2.1, u2.2.2.2.2.1, u2.2.2.2.2.2.1, u2.2.2.2.2.2.2))) else if x1 = (2 : Int32) then (gd x2 8 (some ((f0_held (x2).toNatClampNeg), f0_entryKind, f0_entryValue, f0_entryX, f0_entryY, v0_entries, v0_nextValue))) else if x1 = (3 : Int32) then (gd x2 8 (gd x3 8 (gd x2 8 (gd x3 8 ((f_X7_tableValue n f0_entryKind f0_entryValue f0_entryX f0_entryY v0_entries v0_nextValue x1 (if (f0_held (x3).toNatClampNeg) < (f0_held (x2).toNatClampNeg) then (f0_held (x3).toNatClampNeg) else (f0_held (x2).toNatClampNeg)) (if (f0_held (x2).toNatClampNeg) < (f0_held (x3).toNatClampNeg) then (f0_held (x3).toNatClampNeg) else (f0_held (x2).toNatClampNeg))).bind (fun u13 => some (u13.1, u13.2.1, u13.2.2.1, u13.2.2.2.1, u13.2.2.2.2.1, u13.2.2.2.2.2.1, u13.2.2.2.2.2.2))))))) else if x1 = (4 : Int32) then (gd x2 8 (gd x3 8 ((f_X7_tableValue n f0_entryKind f0_entryValue f0_entryX f0_entryY v0_entries v0_nextValue (4 : Int32) (f0_held (x2).toNatClampNeg) (f0_held (x3).toNatClampNeg)).bind (fun u19 => some (u19.1, u19.2.1, u19.2.2.1, u19.2.2.2.1, u19.2.2.2.2.1, u19.2.2.2.2.2.1, u19.2.2.2.2.2.2))))) else if x1 = (5 : Int32) then (gd x2 8 (gd x3 8 (gd x2 8 (gd x3 8 ((f_X7_tableValue n f0_entryKind f0_entryValue f0_entryX f0_entryY v0_entries v0_nextValue x1 (if (f0_held (x3).toNatClampNeg) < (f0_held (x2).toNatClampNeg) then (f0_held (x3).toNatClampNeg) else (f0_held (x2).toNatClampNeg)) (if (f0_held (x2).toNatClampNeg) < (f0_held (x3).toNatClampNeg) then (f0_held (x3).toNatClampNeg) else (f0_held (x2).toNatClampNeg))).bind (fun u27 => some (u27.1, u27.2.1, u27.2.2.1, u27.2.2.2.1, u27.2.2.2.2.1, u27.2.2.2.2.2.1, u27.2.2.2.2.2.2))))))) else ((f_X7_newValue v0_nextValue).bind (fun u30 => some (u30.1, f0_entryKind, f0_entryValue, f0_entryX, f0_entryY, v0_entries, u30.2)))
theorem iw_X7_givenValue_X7 : ∀ w ∈ wsX70, w ∈ wsX7_givenValue := by decide +kernel
set_option maxHeartbeats 4000000 in
set_option maxRecDepth 100000 in
theorem c_X7_givenValue (l : Launch) (D : va_G) (cI cZ : ClassId) (h0 h0_held h0_entryKind h0_entryX h0_entryY h0_entryValue : Nat) (sz : Nat)  (f0_entryKind f0_entryValue f0_entryX f0_entryY f0_held : Nat → Int32) (v0_entries v0_nextValue : Int32) (n : Nat) (x1 x2 x3 : Int32) (res : (Int32 × (Nat → Int32) × (Nat → Int32) × (Nat → Int32) × (Nat → Int32) × Int32 × Int32)) (hf : f_X7_givenValue n f0_entryKind f0_entryValue f0_entryX f0_entryY f0_held v0_entries v0_nextValue x1 x2 x3 = some res) : Ct_i l yX7_givenValue wsX7_givenValue ({ frames := 2, cells := 0, slots := 0, locals := 44 }) D [(cI, .int), (cZ, .boolean)] [.ref h0, .int x1, .int x2, .int x3] sz [(h0, .inr (6, [.ref h0_held, .ref h0_entryKind, .ref h0_entryX, .ref h0_entryY, .ref h0_entryValue, .int v0_entries, .int v0_nextValue])), (h0_entryKind, .inl (cI, 24, .inl f0_entryKind)), (h0_entryValue, .inl (cI, 24, .inl f0_entryValue)), (h0_entryX, .inl (cI, 24, .inl f0_entryX)), (h0_entryY, .inl (cI, 24, .inl f0_entryY)), (h0_held, .inl (cI, 8, .inl f0_held))] res.1 [(h0, .inr (6, [.ref h0_held, .ref h0_entryKind, .ref h0_entryX, .ref h0_entryY, .ref h0_entryValue, .int res.2.2.2.2.2.1, .int res.2.2.2.2.2.2])), (h0_entryKind, .inl (cI, 24, .inl res.2.1)), (h0_entryValue, .inl (cI, 24, .inl res.2.2.1)), (h0_entryX, .inl (cI, 24, .inl res.2.2.2.1)), (h0_entryY, .inl (cI, 24, .inl res.2.2.2.2.1)), (h0_held, .inl (cI, 8, .inl f0_held))] := by
  refine g_of (cc := cX7_givenValue) (maxL := 4) (ret := some .int) (QQ := (fun A => g_Qi D [(cI, .int), (cZ, .boolean)] A res.1 [(h0, .inr (6, [.ref h0_held, .ref h0_entryKind, .ref h0_entryX, .ref h0_entryY, .ref h0_entryValue, .int res.2.2.2.2.2.1, .int res.2.2.2.2.2.2])), (h0_entryKind, .inl (cI, 24, .inl res.2.1)), (h0_entryValue, .inl (cI, 24, .inl res.2.2.1)), (h0_entryX, .inl (cI, 24, .inl res.2.2.2.1)), (h0_entryY, .inl (cI, 24, .inl res.2.2.2.2.1)), (h0_held, .inl (cI, 8, .inl f0_held))])) (by decide) rfl (Nat.le_of_ble_eq_true rfl) ?_
  intro p e s m args below meth c A ls S hr hlocks hA hP hK hD hl
  show W p l e ({ frames := 2, cells := 0, slots := 0, locals := 44 }) s m args below meth c s.heap [] 0 0 (MQ below (g_Qi D [(cI, .int), (cZ, .boolean)] A res.1 [(h0, .inr (6, [.ref h0_held, .ref h0_entryKind, .ref h0_entryX, .ref h0_entryY, .ref h0_entryValue, .int res.2.2.2.2.2.1, .int res.2.2.2.2.2.2])), (h0_entryKind, .inl (cI, 24, .inl res.2.1)), (h0_entryValue, .inl (cI, 24, .inl res.2.2.1)), (h0_entryX, .inl (cI, 24, .inl res.2.2.2.1)), (h0_entryY, .inl (cI, 24, .inl res.2.2.2.2.1)), (h0_held, .inl (cI, 8, .inl f0_held))]) args s 0 0 A) (F0 m 0 ls [])
  have hx := S.1
  have hb := S.2.1
  have hml := S.2.2.1
  have hown := S.2.2.2.1
  have hts := S.2.2.2.2
  have fl_9 := hts (.fieldLink RX7 9 "PassPipeline$Sharing" "held" "[I") (by decide +kernel)
  have mc_max := hts (.code Lib.Math.max.name Lib.Math.max.code 2 (some .int)) (by decide +kernel)
  have mc_min := hts (.code Lib.Math.min.name Lib.Math.min.code 2 (some .int)) (by decide +kernel)
  have mi := hts (.initialized "java/lang/Math") (by decide +kernel)
  have ml_103 := hts (.methodLink RX7 103 Lib.Math.max.name) (by decide +kernel)
  have ml_97 := hts (.methodLink RX7 97 Lib.Math.min.name) (by decide +kernel)
  have ms_max := hts (.static Lib.Math.max.name) (by decide +kernel)
  have ms_min := hts (.static Lib.Math.min.name) (by decide +kernel)
  have hS : va_S A s.heap s.heap [] := va_S.rf
  have hl : lv_has ls 4 [(0, .ref h0), (1, .int x1), (2, .int x2), (3, .int x3)] := hl
  unfold f_X7_givenValue at hf
  refine lv_iload_n hx hb dX7_givenValue_0 rfl (lv_at hl 1 rfl) ?_
  by_cases c1 : x1 = (1 : Int32)
  · have hf := ite_t hf c1
    have e4 := sw_eq (k := 1) c1 (by decide)
    refine lv_tableIn (tgt := 36) (off := 35) hx hb dX7_givenValue_1 (by rw [e4]; decide) (by rw [e4]; decide) (by rw [e4]; rfl) (by decide) ?_
    refine lv_aload_n hx hb dX7_givenValue_36 rfl (lv_at hl 0 rfl) ?_
    refine lv_iconst (v := (1 : Int32)) hx hb dX7_givenValue_37 (by decide) ?_
    refine lv_iload_n hx hb dX7_givenValue_38 rfl (lv_at hl 2 rfl) ?_
    refine lv_iconst (v := (0 : Int32)) hx hb dX7_givenValue_39 (by decide) ?_
    obtain ⟨u2, g3, hf⟩ := bd_some hf
    refine g_callVi S (c_X7_tableValue l D cI cZ h0 h0_held h0_entryKind h0_entryX h0_entryY h0_entryValue _ f0_entryKind f0_entryValue f0_entryX f0_entryY v0_entries v0_nextValue n (1 : Int32) x2 (0 : Int32) u2 g3) (cwV 3 hts gX7_givenValue_X7_tableValue rfl rfl rfl (by decide +kernel) ⟨Nat.le_of_ble_eq_true rfl, Nat.le_of_ble_eq_true rfl⟩) hK hP hD hS hA 0 (ci := 6) rfl rfl [0, 1, 2, 3, 4] [5] [(h0_held, .inl (cI, 8, .inl f0_held))] rfl rfl (by decide) (by decide) (by decide) rfl hl.1 rfl (Nat.le_of_ble_eq_true rfl) dX7_givenValue_40 ⟨Nat.le_of_ble_eq_true rfl, Nat.le_of_ble_eq_true rfl⟩ (fun H locs hP hD hS => ?_)
    have hP : va_P D vwCl [(h0_held, .inl (cI, 8, .inl f0_held)), (h0, .inr (6, [.ref h0_held, .ref h0_entryKind, .ref h0_entryX, .ref h0_entryY, .ref h0_entryValue, .int u2.2.2.2.2.2.1, .int u2.2.2.2.2.2.2])), (h0_entryKind, .inl (cI, 24, .inl u2.2.1)), (h0_entryValue, .inl (cI, 24, .inl u2.2.2.1)), (h0_entryX, .inl (cI, 24, .inl u2.2.2.2.1)), (h0_entryY, .inl (cI, 24, .inl u2.2.2.2.2.1))] H := hP
    have hD : va_D A [(h0_held, .inl (cI, 8, .inl f0_held)), (h0, .inr (6, [.ref h0_held, .ref h0_entryKind, .ref h0_entryX, .ref h0_entryY, .ref h0_entryValue, .int u2.2.2.2.2.2.1, .int u2.2.2.2.2.2.2])), (h0_entryKind, .inl (cI, 24, .inl u2.2.1)), (h0_entryValue, .inl (cI, 24, .inl u2.2.2.1)), (h0_entryX, .inl (cI, 24, .inl u2.2.2.2.1)), (h0_entryY, .inl (cI, 24, .inl u2.2.2.2.2.1))] := hD
    have hf := Option.some.inj hf
    subst hf
    exact g_iret hx hb hr hlocks (hP.sub [1, 2, 3, 4, 5, 0] rfl) (hD.sub [1, 2, 3, 4, 5, 0] (by decide) rfl) hK hS rfl dX7_givenValue_43
  have hf := ite_e hf c1
  by_cases c5 : x1 = (2 : Int32)
  · have hf := ite_t hf c5
    have e7 := sw_eq (k := 2) c5 (by decide)
    refine lv_tableIn (tgt := 44) (off := 43) hx hb dX7_givenValue_1 (by rw [e7]; decide) (by rw [e7]; decide) (by rw [e7]; rfl) (by decide) ?_
    refine lv_aload_n hx hb dX7_givenValue_44 rfl (lv_at hl 0 rfl) ?_
    refine va_get (D := D) (ci := 6) (v := .ref h0_held) (C := RX7) (T := TX7) (N := 7) hx hb hts iw_X7_givenValue_X7 hown hK hP 0 rfl rfl 0 (by decide) fl_9 (fun _ h9 => h9) rfl dX7_givenValue_45 ?_
    refine lv_iload_n hx hb dX7_givenValue_48 rfl (lv_at hl 2 rfl) ?_
    obtain ⟨i6, hf⟩ := gd_some hf
    refine va_iald hx hb hK hP 5 0 rfl rfl i6 dX7_givenValue_49 ?_
    have hf := Option.some.inj hf
    subst hf
    exact g_iret hx hb hr hlocks (hP.sub [0, 1, 2, 3, 4, 5] rfl) (hD.sub [0, 1, 2, 3, 4, 5] (by decide) rfl) hK hS rfl dX7_givenValue_50
  have hf := ite_e hf c5
  by_cases c8 : x1 = (3 : Int32)
  · have hf := ite_t hf c8
    have e15 := sw_eq (k := 3) c8 (by decide)
    refine lv_tableIn (tgt := 69) (off := 68) hx hb dX7_givenValue_1 (by rw [e15]; decide) (by rw [e15]; decide) (by rw [e15]; rfl) (by decide) ?_
    refine lv_aload_n hx hb dX7_givenValue_69 rfl (lv_at hl 0 rfl) ?_
    refine lv_iload_n hx hb dX7_givenValue_70 rfl (lv_at hl 1 rfl) ?_
    refine lv_aload_n hx hb dX7_givenValue_71 rfl (lv_at hl 0 rfl) ?_
    refine va_get (D := D) (ci := 6) (v := .ref h0_held) (C := RX7) (T := TX7) (N := 7) hx hb hts iw_X7_givenValue_X7 hown hK hP 0 rfl rfl 0 (by decide) fl_9 (fun _ h9 => h9) rfl dX7_givenValue_72 ?_
    refine lv_iload_n hx hb dX7_givenValue_75 rfl (lv_at hl 2 rfl) ?_
    obtain ⟨i9, hf⟩ := gd_some hf
    refine va_iald hx hb hK hP 5 0 rfl rfl i9 dX7_givenValue_76 ?_
    refine lv_aload_n hx hb dX7_givenValue_77 rfl (lv_at hl 0 rfl) ?_
    refine va_get (D := D) (ci := 6) (v := .ref h0_held) (C := RX7) (T := TX7) (N := 7) hx hb hts iw_X7_givenValue_X7 hown hK hP 0 rfl rfl 0 (by decide) fl_9 (fun _ h9 => h9) rfl dX7_givenValue_78 ?_
    refine lv_iload_n hx hb dX7_givenValue_81 rfl (lv_at hl 3 rfl) ?_
    obtain ⟨i10, hf⟩ := gd_some hf
    refine va_iald hx hb hK hP 5 0 rfl rfl i10 dX7_givenValue_82 ?_
    refine va_mmin hx hb (hml.trans hl.1.symm) hown ml_97 ms_min mi mc_min (Nat.le_of_ble_eq_true rfl) (Nat.le_of_ble_eq_true rfl) (Nat.le_of_ble_eq_true rfl) (Nat.le_of_ble_eq_true rfl) dX7_givenValue_83 ?_
    refine lv_aload_n hx hb dX7_givenValue_86 rfl (lv_at hl 0 rfl) ?_
    refine va_get (D := D) (ci := 6) (v := .ref h0_held) (C := RX7) (T := TX7) (N := 7) hx hb hts iw_X7_givenValue_X7 hown hK hP 0 rfl rfl 0 (by decide) fl_9 (fun _ h9 => h9) rfl dX7_givenValue_87 ?_
    refine lv_iload_n hx hb dX7_givenValue_90 rfl (lv_at hl 2 rfl) ?_
    obtain ⟨i11, hf⟩ := gd_some hf
    refine va_iald hx hb hK hP 5 0 rfl rfl i11 dX7_givenValue_91 ?_
    refine lv_aload_n hx hb dX7_givenValue_92 rfl (lv_at hl 0 rfl) ?_
    refine va_get (D := D) (ci := 6) (v := .ref h0_held) (C := RX7) (T := TX7) (N := 7) hx hb hts iw_X7_givenValue_X7 hown hK hP 0 rfl rfl 0 (by decide) fl_9 (fun _ h9 => h9) rfl dX7_givenValue_93 ?_
    refine lv_iload_n hx hb dX7_givenValue_96 rfl (lv_at hl 3 rfl) ?_
    obtain ⟨i12, hf⟩ := gd_some hf
    refine va_iald hx hb hK hP 5 0 rfl rfl i12 dX7_givenValue_97 ?_
    refine va_mmax hx hb (hml.trans hl.1.symm) hown ml_103 ms_max mi mc_max (Nat.le_of_ble_eq_true rfl) (Nat.le_of_ble_eq_true rfl) (Nat.le_of_ble_eq_true rfl) (Nat.le_of_ble_eq_true rfl) dX7_givenValue_98 ?_
    obtain ⟨u13, g14, hf⟩ := bd_some hf
    refine g_callVi S (c_X7_tableValue l D cI cZ h0 h0_held h0_entryKind h0_entryX h0_entryY h0_entryValue _ f0_entryKind f0_entryValue f0_entryX f0_entryY v0_entries v0_nextValue n x1 (if (f0_held (x3).toNatClampNeg) < (f0_held (x2).toNatClampNeg) then (f0_held (x3).toNatClampNeg) else (f0_held (x2).toNatClampNeg)) (if (f0_held (x2).toNatClampNeg) < (f0_held (x3).toNatClampNeg) then (f0_held (x3).toNatClampNeg) else (f0_held (x2).toNatClampNeg)) u13 g14) (cwV 3 hts gX7_givenValue_X7_tableValue rfl rfl rfl (by decide +kernel) ⟨Nat.le_of_ble_eq_true rfl, Nat.le_of_ble_eq_true rfl⟩) hK hP hD hS hA 0 (ci := 6) rfl rfl [0, 1, 2, 3, 4] [5] [(h0_held, .inl (cI, 8, .inl f0_held))] rfl rfl (by decide) (by decide) (by decide) rfl hl.1 rfl (Nat.le_of_ble_eq_true rfl) dX7_givenValue_101 ⟨Nat.le_of_ble_eq_true rfl, Nat.le_of_ble_eq_true rfl⟩ (fun H locs hP hD hS => ?_)
    have hP : va_P D vwCl [(h0_held, .inl (cI, 8, .inl f0_held)), (h0, .inr (6, [.ref h0_held, .ref h0_entryKind, .ref h0_entryX, .ref h0_entryY, .ref h0_entryValue, .int u13.2.2.2.2.2.1, .int u13.2.2.2.2.2.2])), (h0_entryKind, .inl (cI, 24, .inl u13.2.1)), (h0_entryValue, .inl (cI, 24, .inl u13.2.2.1)), (h0_entryX, .inl (cI, 24, .inl u13.2.2.2.1)), (h0_entryY, .inl (cI, 24, .inl u13.2.2.2.2.1))] H := hP
    have hD : va_D A [(h0_held, .inl (cI, 8, .inl f0_held)), (h0, .inr (6, [.ref h0_held, .ref h0_entryKind, .ref h0_entryX, .ref h0_entryY, .ref h0_entryValue, .int u13.2.2.2.2.2.1, .int u13.2.2.2.2.2.2])), (h0_entryKind, .inl (cI, 24, .inl u13.2.1)), (h0_entryValue, .inl (cI, 24, .inl u13.2.2.1)), (h0_entryX, .inl (cI, 24, .inl u13.2.2.2.1)), (h0_entryY, .inl (cI, 24, .inl u13.2.2.2.2.1))] := hD
    have hf := Option.some.inj hf
    subst hf
    exact g_iret hx hb hr hlocks (hP.sub [1, 2, 3, 4, 5, 0] rfl) (hD.sub [1, 2, 3, 4, 5, 0] (by decide) rfl) hK hS rfl dX7_givenValue_104
  have hf := ite_e hf c8
  by_cases c16 : x1 = (4 : Int32)
  · have hf := ite_t hf c16
    have e21 := sw_eq (k := 4) c16 (by decide)
    refine lv_tableIn (tgt := 51) (off := 50) hx hb dX7_givenValue_1 (by rw [e21]; decide) (by rw [e21]; decide) (by rw [e21]; rfl) (by decide) ?_
    refine lv_aload_n hx hb dX7_givenValue_51 rfl (lv_at hl 0 rfl) ?_
    refine lv_iconst (v := (4 : Int32)) hx hb dX7_givenValue_52 (by decide) ?_
    refine lv_aload_n hx hb dX7_givenValue_53 rfl (lv_at hl 0 rfl) ?_
    refine va_get (D := D) (ci := 6) (v := .ref h0_held) (C := RX7) (T := TX7) (N := 7) hx hb hts iw_X7_givenValue_X7 hown hK hP 0 rfl rfl 0 (by decide) fl_9 (fun _ h9 => h9) rfl dX7_givenValue_54 ?_
    refine lv_iload_n hx hb dX7_givenValue_57 rfl (lv_at hl 2 rfl) ?_
    obtain ⟨i17, hf⟩ := gd_some hf
    refine va_iald hx hb hK hP 5 0 rfl rfl i17 dX7_givenValue_58 ?_
    refine lv_aload_n hx hb dX7_givenValue_59 rfl (lv_at hl 0 rfl) ?_
    refine va_get (D := D) (ci := 6) (v := .ref h0_held) (C := RX7) (T := TX7) (N := 7) hx hb hts iw_X7_givenValue_X7 hown hK hP 0 rfl rfl 0 (by decide) fl_9 (fun _ h9 => h9) rfl dX7_givenValue_60 ?_
    refine lv_iload_n hx hb dX7_givenValue_63 rfl (lv_at hl 3 rfl) ?_
    obtain ⟨i18, hf⟩ := gd_some hf
    refine va_iald hx hb hK hP 5 0 rfl rfl i18 dX7_givenValue_64 ?_
    obtain ⟨u19, g20, hf⟩ := bd_some hf
    refine g_callVi S (c_X7_tableValue l D cI cZ h0 h0_held h0_entryKind h0_entryX h0_entryY h0_entryValue _ f0_entryKind f0_entryValue f0_entryX f0_entryY v0_entries v0_nextValue n (4 : Int32) (f0_held (x2).toNatClampNeg) (f0_held (x3).toNatClampNeg) u19 g20) (cwV 3 hts gX7_givenValue_X7_tableValue rfl rfl rfl (by decide +kernel) ⟨Nat.le_of_ble_eq_true rfl, Nat.le_of_ble_eq_true rfl⟩) hK hP hD hS hA 0 (ci := 6) rfl rfl [0, 1, 2, 3, 4] [5] [(h0_held, .inl (cI, 8, .inl f0_held))] rfl rfl (by decide) (by decide) (by decide) rfl hl.1 rfl (Nat.le_of_ble_eq_true rfl) dX7_givenValue_65 ⟨Nat.le_of_ble_eq_true rfl, Nat.le_of_ble_eq_true rfl⟩ (fun H locs hP hD hS => ?_)
    have hP : va_P D vwCl [(h0_held, .inl (cI, 8, .inl f0_held)), (h0, .inr (6, [.ref h0_held, .ref h0_entryKind, .ref h0_entryX, .ref h0_entryY, .ref h0_entryValue, .int u19.2.2.2.2.2.1, .int u19.2.2.2.2.2.2])), (h0_entryKind, .inl (cI, 24, .inl u19.2.1)), (h0_entryValue, .inl (cI, 24, .inl u19.2.2.1)), (h0_entryX, .inl (cI, 24, .inl u19.2.2.2.1)), (h0_entryY, .inl (cI, 24, .inl u19.2.2.2.2.1))] H := hP
    have hD : va_D A [(h0_held, .inl (cI, 8, .inl f0_held)), (h0, .inr (6, [.ref h0_held, .ref h0_entryKind, .ref h0_entryX, .ref h0_entryY, .ref h0_entryValue, .int u19.2.2.2.2.2.1, .int u19.2.2.2.2.2.2])), (h0_entryKind, .inl (cI, 24, .inl u19.2.1)), (h0_entryValue, .inl (cI, 24, .inl u19.2.2.1)), (h0_entryX, .inl (cI, 24, .inl u19.2.2.2.1)), (h0_entryY, .inl (cI, 24, .inl u19.2.2.2.2.1))] := hD
    have hf := Option.some.inj hf
    subst hf
    exact g_iret hx hb hr hlocks (hP.sub [1, 2, 3, 4, 5, 0] rfl) (hD.sub [1, 2, 3, 4, 5, 0] (by decide) rfl) hK hS rfl dX7_givenValue_68
  have hf := ite_e hf c16
  by_cases c22 : x1 = (5 : Int32)
  · have hf := ite_t hf c22
    have e29 := sw_eq (k := 5) c22 (by decide)
    refine lv_tableIn (tgt := 69) (off := 68) hx hb dX7_givenValue_1 (by rw [e29]; decide) (by rw [e29]; decide) (by rw [e29]; rfl) (by decide) ?_
    refine lv_aload_n hx hb dX7_givenValue_69 rfl (lv_at hl 0 rfl) ?_
    refine lv_iload_n hx hb dX7_givenValue_70 rfl (lv_at hl 1 rfl) ?_
    refine lv_aload_n hx hb dX7_givenValue_71 rfl (lv_at hl 0 rfl) ?_
    refine va_get (D := D) (ci := 6) (v := .ref h0_held) (C := RX7) (T := TX7) (N := 7) hx hb hts iw_X7_givenValue_X7 hown hK hP 0 rfl rfl 0 (by decide) fl_9 (fun _ h9 => h9) rfl dX7_givenValue_72 ?_
    refine lv_iload_n hx hb dX7_givenValue_75 rfl (lv_at hl 2 rfl) ?_
    obtain ⟨i23, hf⟩ := gd_some hf
    refine va_iald hx hb hK hP 5 0 rfl rfl i23 dX7_givenValue_76 ?_
    refine lv_aload_n hx hb dX7_givenValue_77 rfl (lv_at hl 0 rfl) ?_
    refine va_get (D := D) (ci := 6) (v := .ref h0_held) (C := RX7) (T := TX7) (N := 7) hx hb hts iw_X7_givenValue_X7 hown hK hP 0 rfl rfl 0 (by decide) fl_9 (fun _ h9 => h9) rfl dX7_givenValue_78 ?_
    refine lv_iload_n hx hb dX7_givenValue_81 rfl (lv_at hl 3 rfl) ?_
    obtain ⟨i24, hf⟩ := gd_some hf
    refine va_iald hx hb hK hP 5 0 rfl rfl i24 dX7_givenValue_82 ?_
    refine va_mmin hx hb (hml.trans hl.1.symm) hown ml_97 ms_min mi mc_min (Nat.le_of_ble_eq_true rfl) (Nat.le_of_ble_eq_true rfl) (Nat.le_of_ble_eq_true rfl) (Nat.le_of_ble_eq_true rfl) dX7_givenValue_83 ?_
    refine lv_aload_n hx hb dX7_givenValue_86 rfl (lv_at hl 0 rfl) ?_
    refine va_get (D := D) (ci := 6) (v := .ref h0_held) (C := RX7) (T := TX7) (N := 7) hx hb hts iw_X7_givenValue_X7 hown hK hP 0 rfl rfl 0 (by decide) fl_9 (fun _ h9 => h9) rfl dX7_givenValue_87 ?_
    refine lv_iload_n hx hb dX7_givenValue_90 rfl (lv_at hl 2 rfl) ?_
    obtain ⟨i25, hf⟩ := gd_some hf
    refine va_iald hx hb hK hP 5 0 rfl rfl i25 dX7_givenValue_91 ?_
    refine lv_aload_n hx hb dX7_givenValue_92 rfl (lv_at hl 0 rfl) ?_
    refine va_get (D := D) (ci := 6) (v := .ref h0_held) (C := RX7) (T := TX7) (N := 7) hx hb hts iw_X7_givenValue_X7 hown hK hP 0 rfl rfl 0 (by decide) fl_9 (fun _ h9 => h9) rfl dX7_givenValue_93 ?_
    refine lv_iload_n hx hb dX7_givenValue_96 rfl (lv_at hl 3 rfl) ?_
    obtain ⟨i26, hf⟩ := gd_some hf
    refine va_iald hx hb hK hP 5 0 rfl rfl i26 dX7_givenValue_97 ?_
    refine va_mmax hx hb (hml.trans hl.1.symm) hown ml_103 ms_max mi mc_max (Nat.le_of_ble_eq_true rfl) (Nat.le_of_ble_eq_true rfl) (Nat.le_of_ble_eq_true rfl) (Nat.le_of_ble_eq_true rfl) dX7_givenValue_98 ?_
    obtain ⟨u27, g28, hf⟩ := bd_some hf
    refine g_callVi S (c_X7_tableValue l D cI cZ h0 h0_held h0_entryKind h0_entryX h0_entryY h0_entryValue _ f0_entryKind f0_entryValue f0_entryX f0_entryY v0_entries v0_nextValue n x1 (if (f0_held (x3).toNatClampNeg) < (f0_held (x2).toNatClampNeg) then (f0_held (x3).toNatClampNeg) else (f0_held (x2).toNatClampNeg)) (if (f0_held (x2).toNatClampNeg) < (f0_held (x3).toNatClampNeg) then (f0_held (x3).toNatClampNeg) else (f0_held (x2).toNatClampNeg)) u27 g28) (cwV 3 hts gX7_givenValue_X7_tableValue rfl rfl rfl (by decide +kernel) ⟨Nat.le_of_ble_eq_true rfl, Nat.le_of_ble_eq_true rfl⟩) hK hP hD hS hA 0 (ci := 6) rfl rfl [0, 1, 2, 3, 4] [5] [(h0_held, .inl (cI, 8, .inl f0_held))] rfl rfl (by decide) (by decide) (by decide) rfl hl.1 rfl (Nat.le_of_ble_eq_true rfl) dX7_givenValue_101 ⟨Nat.le_of_ble_eq_true rfl, Nat.le_of_ble_eq_true rfl⟩ (fun H locs hP hD hS => ?_)
    have hP : va_P D vwCl [(h0_held, .inl (cI, 8, .inl f0_held)), (h0, .inr (6, [.ref h0_held, .ref h0_entryKind, .ref h0_entryX, .ref h0_entryY, .ref h0_entryValue, .int u27.2.2.2.2.2.1, .int u27.2.2.2.2.2.2])), (h0_entryKind, .inl (cI, 24, .inl u27.2.1)), (h0_entryValue, .inl (cI, 24, .inl u27.2.2.1)), (h0_entryX, .inl (cI, 24, .inl u27.2.2.2.1)), (h0_entryY, .inl (cI, 24, .inl u27.2.2.2.2.1))] H := hP
    have hD : va_D A [(h0_held, .inl (cI, 8, .inl f0_held)), (h0, .inr (6, [.ref h0_held, .ref h0_entryKind, .ref h0_entryX, .ref h0_entryY, .ref h0_entryValue, .int u27.2.2.2.2.2.1, .int u27.2.2.2.2.2.2])), (h0_entryKind, .inl (cI, 24, .inl u27.2.1)), (h0_entryValue, .inl (cI, 24, .inl u27.2.2.1)), (h0_entryX, .inl (cI, 24, .inl u27.2.2.2.1)), (h0_entryY, .inl (cI, 24, .inl u27.2.2.2.2.1))] := hD
    have hf := Option.some.inj hf
    subst hf
    exact g_iret hx hb hr hlocks (hP.sub [1, 2, 3, 4, 5, 0] rfl) (hD.sub [1, 2, 3, 4, 5, 0] (by decide) rfl) hK hS rfl dX7_givenValue_104
  have hf := ite_e hf c22
  have e32 := sw_ne (k := 1) c1 (by decide)
  have e33 := sw_ne (k := 2) c5 (by decide)
  have e34 := sw_ne (k := 3) c8 (by decide)
  have e35 := sw_ne (k := 4) c16 (by decide)
  have e36 := sw_ne (k := 5) c22 (by decide)
  refine lv_tableOut (tgt := 105) hx hb dX7_givenValue_1 (by omega) (by decide) ?_
  refine lv_aload_n hx hb dX7_givenValue_105 rfl (lv_at hl 0 rfl) ?_
  obtain ⟨u30, g31, hf⟩ := bd_some hf
  refine g_callVi S (c_X7_newValue l D cI cZ h0 h0_held h0_entryKind h0_entryX h0_entryY h0_entryValue _ v0_entries v0_nextValue u30 g31) (cwV 0 hts gX7_givenValue_X7_newValue rfl rfl rfl (by decide +kernel) ⟨Nat.le_of_ble_eq_true rfl, Nat.le_of_ble_eq_true rfl⟩) hK hP hD hS hA 0 (ci := 6) rfl rfl [0] [1, 2, 3, 4, 5] [(h0_entryKind, .inl (cI, 24, .inl f0_entryKind)), (h0_entryValue, .inl (cI, 24, .inl f0_entryValue)), (h0_entryX, .inl (cI, 24, .inl f0_entryX)), (h0_entryY, .inl (cI, 24, .inl f0_entryY)), (h0_held, .inl (cI, 8, .inl f0_held))] rfl rfl (by decide) (by decide) (by decide) rfl hl.1 rfl (Nat.le_of_ble_eq_true rfl) dX7_givenValue_106 ⟨Nat.le_of_ble_eq_true rfl, Nat.le_of_ble_eq_true rfl⟩ (fun H locs hP hD hS => ?_)
  have hP : va_P D vwCl [(h0_entryKind, .inl (cI, 24, .inl f0_entryKind)), (h0_entryValue, .inl (cI, 24, .inl f0_entryValue)), (h0_entryX, .inl (cI, 24, .inl f0_entryX)), (h0_entryY, .inl (cI, 24, .inl f0_entryY)), (h0_held, .inl (cI, 8, .inl f0_held)), (h0, .inr (6, [.ref h0_held, .ref h0_entryKind, .ref h0_entryX, .ref h0_entryY, .ref h0_entryValue, .int v0_entries, .int u30.2]))] H := hP
  have hD : va_D A [(h0_entryKind, .inl (cI, 24, .inl f0_entryKind)), (h0_entryValue, .inl (cI, 24, .inl f0_entryValue)), (h0_entryX, .inl (cI, 24, .inl f0_entryX)), (h0_entryY, .inl (cI, 24, .inl f0_entryY)), (h0_held, .inl (cI, 8, .inl f0_held)), (h0, .inr (6, [.ref h0_held, .ref h0_entryKind, .ref h0_entryX, .ref h0_entryY, .ref h0_entryValue, .int v0_entries, .int u30.2]))] := hD
  have hf := Option.some.inj hf
  subst hf
  exact g_iret hx hb hr hlocks (hP.sub [5, 0, 1, 2, 3, 4] rfl) (hD.sub [5, 0, 1, 2, 3, 4] (by decide) rfl) hK hS rfl dX7_givenValue_109

def f_X7_lowestHolder_2 (n : Nat)  : Nat → (Nat → Int32) → Int32 → Int32 → Option Int32
  | 0, _, _, _ => none
  | k + 1, f0_held, x1, x2 => if (8 : Int32) ≤ x2 then (some (-1 : Int32)) else (gd x2 8 (if (f0_held (x2).toNatClampNeg) = x1 then (some x2) else (f_X7_lowestHolder_2 n k f0_held x1 (x2 + (1 : Int32)))))
def f_X7_lowestHolder (n : Nat)  (f0_held : (Nat → Int32)) (x1 : Int32) : Option Int32 := f_X7_lowestHolder_2 n n f0_held x1 (0 : Int32)
theorem iw_X7_lowestHolder_X7 : ∀ w ∈ wsX70, w ∈ wsX7_lowestHolder := by decide +kernel
set_option maxHeartbeats 4000000 in
set_option maxRecDepth 100000 in
theorem c_X7_lowestHolder (l : Launch) (D : va_G) (cI cZ : ClassId) (h0 h0_held h0_entryKind h0_entryX h0_entryY h0_entryValue : Nat) (sz : Nat)  (f0_held : Nat → Int32) (v0_entries v0_nextValue : Int32) (n : Nat) (x1 : Int32) (res : Int32) (hf : f_X7_lowestHolder n f0_held x1 = some res) : Ct_i l yX7_lowestHolder wsX7_lowestHolder ({ frames := 0, cells := 0, slots := 0, locals := 0 }) D [(cI, .int), (cZ, .boolean)] [.ref h0, .int x1] sz [(h0, .inr (6, [.ref h0_held, .ref h0_entryKind, .ref h0_entryX, .ref h0_entryY, .ref h0_entryValue, .int v0_entries, .int v0_nextValue])), (h0_held, .inl (cI, 8, .inl f0_held))] res [(h0, .inr (6, [.ref h0_held, .ref h0_entryKind, .ref h0_entryX, .ref h0_entryY, .ref h0_entryValue, .int v0_entries, .int v0_nextValue])), (h0_held, .inl (cI, 8, .inl f0_held))] := by
  refine g_of (cc := cX7_lowestHolder) (maxL := 3) (ret := some .int) (QQ := (fun A => g_Qi D [(cI, .int), (cZ, .boolean)] A res [(h0, .inr (6, [.ref h0_held, .ref h0_entryKind, .ref h0_entryX, .ref h0_entryY, .ref h0_entryValue, .int v0_entries, .int v0_nextValue])), (h0_held, .inl (cI, 8, .inl f0_held))])) (by decide) rfl (Nat.le_of_ble_eq_true rfl) ?_
  intro p e s m args below meth c A ls S hr hlocks hA hP hK hD hl
  show W p l e ({ frames := 0, cells := 0, slots := 0, locals := 0 }) s m args below meth c s.heap [] 0 0 (MQ below (g_Qi D [(cI, .int), (cZ, .boolean)] A res [(h0, .inr (6, [.ref h0_held, .ref h0_entryKind, .ref h0_entryX, .ref h0_entryY, .ref h0_entryValue, .int v0_entries, .int v0_nextValue])), (h0_held, .inl (cI, 8, .inl f0_held))]) args s 0 0 A) (F0 m 0 ls [])
  have hx := S.1
  have hb := S.2.1
  have hml := S.2.2.1
  have hown := S.2.2.2.1
  have hts := S.2.2.2.2
  have fl_9 := hts (.fieldLink RX7 9 "PassPipeline$Sharing" "held" "[I") (by decide +kernel)
  have hS : va_S A s.heap s.heap [] := va_S.rf
  have hl : lv_has ls 3 [(0, .ref h0), (1, .int x1)] := hl
  have hJ_2 : ∀ (k : Nat)  (x1 x2 : Int32) (H : Heap) (locs : List Loc) (ls : Array Slot), f_X7_lowestHolder_2 n k f0_held x1 x2 = some res → va_P D vwCl [(h0, .inr (6, [.ref h0_held, .ref h0_entryKind, .ref h0_entryX, .ref h0_entryY, .ref h0_entryValue, .int v0_entries, .int v0_nextValue])), (h0_held, .inl (cI, 8, .inl f0_held))] H → va_D A [(h0, .inr (6, [.ref h0_held, .ref h0_entryKind, .ref h0_entryX, .ref h0_entryY, .ref h0_entryValue, .int v0_entries, .int v0_nextValue])), (h0_held, .inl (cI, 8, .inl f0_held))] → va_S A s.heap H locs → lv_has ls 3 [(0, .ref h0), (1, .int x1), (2, .int x2)] → W p l e ({ frames := 0, cells := 0, slots := 0, locals := 0 }) s m args below meth c H locs 0 0 (MQ below (g_Qi D [(cI, .int), (cZ, .boolean)] A res [(h0, .inr (6, [.ref h0_held, .ref h0_entryKind, .ref h0_entryX, .ref h0_entryY, .ref h0_entryValue, .int v0_entries, .int v0_nextValue])), (h0_held, .inl (cI, 8, .inl f0_held))]) args s 0 0 A) (F0 m 2 ls []) := by
    intro k
    induction k with
    | zero => intro x1 x2 H locs ls hf; rw [f_X7_lowestHolder_2] at hf; cases hf
    | succ m_2 ih =>
      have ih_2 : ∀  (x1 x2 : Int32) (H : Heap) (locs : List Loc) (ls : Array Slot), (fun x1' x2' => f_X7_lowestHolder_2 n m_2 f0_held x1' x2') x1 x2 = some res → va_P D vwCl [(h0, .inr (6, [.ref h0_held, .ref h0_entryKind, .ref h0_entryX, .ref h0_entryY, .ref h0_entryValue, .int v0_entries, .int v0_nextValue])), (h0_held, .inl (cI, 8, .inl f0_held))] H → va_D A [(h0, .inr (6, [.ref h0_held, .ref h0_entryKind, .ref h0_entryX, .ref h0_entryY, .ref h0_entryValue, .int v0_entries, .int v0_nextValue])), (h0_held, .inl (cI, 8, .inl f0_held))] → va_S A s.heap H locs → lv_has ls 3 [(0, .ref h0), (1, .int x1), (2, .int x2)] → W p l e ({ frames := 0, cells := 0, slots := 0, locals := 0 }) s m args below meth c H locs 0 0 (MQ below (g_Qi D [(cI, .int), (cZ, .boolean)] A res [(h0, .inr (6, [.ref h0_held, .ref h0_entryKind, .ref h0_entryX, .ref h0_entryY, .ref h0_entryValue, .int v0_entries, .int v0_nextValue])), (h0_held, .inl (cI, 8, .inl f0_held))]) args s 0 0 A) (F0 m 2 ls []) := ih
      intro x1 x2 H locs ls hf hP hD hS hl
      rw [f_X7_lowestHolder_2] at hf
      refine lv_iload_n hx hb dX7_lowestHolder_2 rfl (lv_at hl 2 rfl) ?_
      refine lv_bipush (v := (8 : Int32)) hx hb dX7_lowestHolder_3 (by decide +kernel) ?_
      refine lv_icmp_ge (tgt := 26) hx hb dX7_lowestHolder_5 (by decide) (fun c1 => ?_) (fun c1 => ?_)
      · have hf := ite_t hf c1
        refine lv_iconst (v := (-1 : Int32)) hx hb dX7_lowestHolder_26 (by decide) ?_
        have hf := Option.some.inj hf
        subst hf
        exact g_iret hx hb hr hlocks (hP.sub [0, 1] rfl) (hD.sub [0, 1] (by decide) rfl) hK hS rfl dX7_lowestHolder_27
      · have hf := ite_e hf c1
        refine lv_aload_n hx hb dX7_lowestHolder_8 rfl (lv_at hl 0 rfl) ?_
        refine va_get (D := D) (ci := 6) (v := .ref h0_held) (C := RX7) (T := TX7) (N := 7) hx hb hts iw_X7_lowestHolder_X7 hown hK hP 0 rfl rfl 0 (by decide) fl_9 (fun _ h9 => h9) rfl dX7_lowestHolder_9 ?_
        refine lv_iload_n hx hb dX7_lowestHolder_12 rfl (lv_at hl 2 rfl) ?_
        obtain ⟨i2, hf⟩ := gd_some hf
        refine va_iald hx hb hK hP 1 0 rfl rfl i2 dX7_lowestHolder_13 ?_
        refine lv_iload_n hx hb dX7_lowestHolder_14 rfl (lv_at hl 1 rfl) ?_
        refine lv_icmp_ne (tgt := 20) hx hb dX7_lowestHolder_15 (by decide) (fun c3 => ?_) (fun c3 => ?_)
        · have hf := ite_e hf c3
          refine lv_iinc (v := (x2 + (1 : Int32))) (lv' := [(2, .int (x2 + (1 : Int32))), (0, .ref h0), (1, .int x1)]) hx hb dX7_lowestHolder_20 hl (k := 2) rfl rfl (by decide) rfl (fun ls hl => ?_)
          refine lv_goto (tgt := 2) hx hb dX7_lowestHolder_23 (by decide) ?_
          exact ih_2 _ _ _ _ ls hf (hP.sub [0, 1] rfl) (hD.sub [0, 1] (by decide) rfl) hS (lv_sub hl [1, 2, 0] rfl)
        · have hf := ite_t hf c3
          refine lv_iload_n hx hb dX7_lowestHolder_18 rfl (lv_at hl 2 rfl) ?_
          have hf := Option.some.inj hf
          subst hf
          exact g_iret hx hb hr hlocks (hP.sub [0, 1] rfl) (hD.sub [0, 1] (by decide) rfl) hK hS rfl dX7_lowestHolder_19
  unfold f_X7_lowestHolder at hf
  refine lv_iconst (v := (0 : Int32)) hx hb dX7_lowestHolder_0 (by decide) ?_
  refine lv_istore_n (lv' := [(2, .int (0 : Int32)), (0, .ref h0), (1, .int x1)]) hx hb dX7_lowestHolder_1 rfl hl (by decide) rfl (fun ls hl => ?_)
  exact hJ_2 n _ _ _ _ ls hf (hP.sub [0, 1] rfl) (hD.sub [0, 1] (by decide) rfl) hS (lv_sub hl [1, 2, 0] rfl)

def f_X7_forgetAll_2 (n : Nat)  : Nat → (Nat → Int32) → Int32 → Int32 → Int32 → Option ((Nat → Int32) × Int32 × Int32)
  | 0, _, _, _, _ => none
  | k + 1, f0_held, v0_entries, v0_nextValue, x1 => if (8 : Int32) ≤ x1 then (some (f0_held, (0 : Int32), (8 : Int32))) else (gd x1 8 (f_X7_forgetAll_2 n k (upd f0_held (x1).toNatClampNeg x1) v0_entries v0_nextValue (x1 + (1 : Int32))))
def f_X7_forgetAll (n : Nat)  (f0_held : (Nat → Int32)) (v0_entries : Int32) (v0_nextValue : Int32)  : Option ((Nat → Int32) × Int32 × Int32) := f_X7_forgetAll_2 n n f0_held v0_entries v0_nextValue (0 : Int32)
theorem iw_X7_forgetAll_X7 : ∀ w ∈ wsX70, w ∈ wsX7_forgetAll := by decide +kernel
set_option maxHeartbeats 4000000 in
set_option maxRecDepth 100000 in
theorem c_X7_forgetAll (l : Launch) (D : va_G) (cI cZ : ClassId) (h0 h0_held h0_entryKind h0_entryX h0_entryY h0_entryValue : Nat) (sz : Nat)  (f0_held : Nat → Int32) (v0_entries v0_nextValue : Int32) (n : Nat)  (res : ((Nat → Int32) × Int32 × Int32)) (hf : f_X7_forgetAll n f0_held v0_entries v0_nextValue = some res) : Ct_v l yX7_forgetAll wsX7_forgetAll ({ frames := 0, cells := 0, slots := 0, locals := 0 }) D [(cI, .int), (cZ, .boolean)] [.ref h0] sz [(h0, .inr (6, [.ref h0_held, .ref h0_entryKind, .ref h0_entryX, .ref h0_entryY, .ref h0_entryValue, .int v0_entries, .int v0_nextValue])), (h0_held, .inl (cI, 8, .inl f0_held))] [(h0, .inr (6, [.ref h0_held, .ref h0_entryKind, .ref h0_entryX, .ref h0_entryY, .ref h0_entryValue, .int res.2.1, .int res.2.2])), (h0_held, .inl (cI, 8, .inl res.1))] := by
  refine g_of (cc := cX7_forgetAll) (maxL := 2) (ret := none) (QQ := (fun A => g_Qv D [(cI, .int), (cZ, .boolean)] A [(h0, .inr (6, [.ref h0_held, .ref h0_entryKind, .ref h0_entryX, .ref h0_entryY, .ref h0_entryValue, .int res.2.1, .int res.2.2])), (h0_held, .inl (cI, 8, .inl res.1))])) (by decide) rfl (Nat.le_of_ble_eq_true rfl) ?_
  intro p e s m args below meth c A ls S hr hlocks hA hP hK hD hl
  show W p l e ({ frames := 0, cells := 0, slots := 0, locals := 0 }) s m args below meth c s.heap [] 0 0 (MQ below (g_Qv D [(cI, .int), (cZ, .boolean)] A [(h0, .inr (6, [.ref h0_held, .ref h0_entryKind, .ref h0_entryX, .ref h0_entryY, .ref h0_entryValue, .int res.2.1, .int res.2.2])), (h0_held, .inl (cI, 8, .inl res.1))]) args s 0 0 A) (F0 m 0 ls [])
  have hx := S.1
  have hb := S.2.1
  have hml := S.2.2.1
  have hown := S.2.2.2.1
  have hts := S.2.2.2.2
  have fl_27 := hts (.fieldLink RX7 27 "PassPipeline$Sharing" "entries" "I") (by decide +kernel)
  have fl_31 := hts (.fieldLink RX7 31 "PassPipeline$Sharing" "nextValue" "I") (by decide +kernel)
  have fl_9 := hts (.fieldLink RX7 9 "PassPipeline$Sharing" "held" "[I") (by decide +kernel)
  have hS : va_S A s.heap s.heap [] := va_S.rf
  have hl : lv_has ls 2 [(0, .ref h0)] := hl
  have hJ_2 : ∀ (k : Nat) (f0_held : (Nat → Int32)) (v0_entries : Int32) (v0_nextValue : Int32) (x1 : Int32) (H : Heap) (locs : List Loc) (ls : Array Slot), f_X7_forgetAll_2 n k f0_held v0_entries v0_nextValue x1 = some res → va_P D vwCl [(h0, .inr (6, [.ref h0_held, .ref h0_entryKind, .ref h0_entryX, .ref h0_entryY, .ref h0_entryValue, .int v0_entries, .int v0_nextValue])), (h0_held, .inl (cI, 8, .inl f0_held))] H → va_D A [(h0, .inr (6, [.ref h0_held, .ref h0_entryKind, .ref h0_entryX, .ref h0_entryY, .ref h0_entryValue, .int v0_entries, .int v0_nextValue])), (h0_held, .inl (cI, 8, .inl f0_held))] → va_S A s.heap H locs → lv_has ls 2 [(0, .ref h0), (1, .int x1)] → W p l e ({ frames := 0, cells := 0, slots := 0, locals := 0 }) s m args below meth c H locs 0 0 (MQ below (g_Qv D [(cI, .int), (cZ, .boolean)] A [(h0, .inr (6, [.ref h0_held, .ref h0_entryKind, .ref h0_entryX, .ref h0_entryY, .ref h0_entryValue, .int res.2.1, .int res.2.2])), (h0_held, .inl (cI, 8, .inl res.1))]) args s 0 0 A) (F0 m 2 ls []) := by
    intro k
    induction k with
    | zero => intro f0_held v0_entries v0_nextValue x1 H locs ls hf; rw [f_X7_forgetAll_2] at hf; cases hf
    | succ m_2 ih =>
      have ih_2 : ∀ (f0_held : (Nat → Int32)) (v0_entries : Int32) (v0_nextValue : Int32) (x1 : Int32) (H : Heap) (locs : List Loc) (ls : Array Slot), (fun f0_held' v0_entries' v0_nextValue' x1' => f_X7_forgetAll_2 n m_2 f0_held' v0_entries' v0_nextValue' x1') f0_held v0_entries v0_nextValue x1 = some res → va_P D vwCl [(h0, .inr (6, [.ref h0_held, .ref h0_entryKind, .ref h0_entryX, .ref h0_entryY, .ref h0_entryValue, .int v0_entries, .int v0_nextValue])), (h0_held, .inl (cI, 8, .inl f0_held))] H → va_D A [(h0, .inr (6, [.ref h0_held, .ref h0_entryKind, .ref h0_entryX, .ref h0_entryY, .ref h0_entryValue, .int v0_entries, .int v0_nextValue])), (h0_held, .inl (cI, 8, .inl f0_held))] → va_S A s.heap H locs → lv_has ls 2 [(0, .ref h0), (1, .int x1)] → W p l e ({ frames := 0, cells := 0, slots := 0, locals := 0 }) s m args below meth c H locs 0 0 (MQ below (g_Qv D [(cI, .int), (cZ, .boolean)] A [(h0, .inr (6, [.ref h0_held, .ref h0_entryKind, .ref h0_entryX, .ref h0_entryY, .ref h0_entryValue, .int res.2.1, .int res.2.2])), (h0_held, .inl (cI, 8, .inl res.1))]) args s 0 0 A) (F0 m 2 ls []) := ih
      intro f0_held v0_entries v0_nextValue x1 H locs ls hf hP hD hS hl
      rw [f_X7_forgetAll_2] at hf
      refine lv_iload_n hx hb dX7_forgetAll_2 rfl (lv_at hl 1 rfl) ?_
      refine lv_bipush (v := (8 : Int32)) hx hb dX7_forgetAll_3 (by decide +kernel) ?_
      refine lv_icmp_ge (tgt := 21) hx hb dX7_forgetAll_5 (by decide) (fun c1 => ?_) (fun c1 => ?_)
      · have hf := ite_t hf c1
        refine lv_aload_n hx hb dX7_forgetAll_21 rfl (lv_at hl 0 rfl) ?_
        refine lv_bipush (v := (8 : Int32)) hx hb dX7_forgetAll_22 (by decide +kernel) ?_
        refine va_put (D := D) (ci := 6) (v := .int (8 : Int32)) (ty := .int) (C := RX7) (T := TX7) (N := 7) hx hb hts iw_X7_forgetAll_X7 tyX7 tyX7_ok nmX7 hown hK hP hD hS 0 rfl rfl 6 (by decide) fl_31 (fun _ h9 => h9) rfl (by decide +kernel) rfl rfl (Nat.le_of_ble_eq_true rfl) dX7_forgetAll_24 (fun H locs hP hD hS => ?_)
        have hP : va_P D vwCl [(h0, .inr (6, [.ref h0_held, .ref h0_entryKind, .ref h0_entryX, .ref h0_entryY, .ref h0_entryValue, .int v0_entries, .int (8 : Int32)])), (h0_held, .inl (cI, 8, .inl f0_held))] H := hP
        have hD : va_D A [(h0, .inr (6, [.ref h0_held, .ref h0_entryKind, .ref h0_entryX, .ref h0_entryY, .ref h0_entryValue, .int v0_entries, .int (8 : Int32)])), (h0_held, .inl (cI, 8, .inl f0_held))] := hD
        refine lv_aload_n hx hb dX7_forgetAll_27 rfl (lv_at hl 0 rfl) ?_
        refine lv_iconst (v := (0 : Int32)) hx hb dX7_forgetAll_28 (by decide) ?_
        refine va_put (D := D) (ci := 6) (v := .int (0 : Int32)) (ty := .int) (C := RX7) (T := TX7) (N := 7) hx hb hts iw_X7_forgetAll_X7 tyX7 tyX7_ok nmX7 hown hK hP hD hS 0 rfl rfl 5 (by decide) fl_27 (fun _ h9 => h9) rfl (by decide +kernel) rfl rfl (Nat.le_of_ble_eq_true rfl) dX7_forgetAll_29 (fun H locs hP hD hS => ?_)
        have hP : va_P D vwCl [(h0, .inr (6, [.ref h0_held, .ref h0_entryKind, .ref h0_entryX, .ref h0_entryY, .ref h0_entryValue, .int (0 : Int32), .int (8 : Int32)])), (h0_held, .inl (cI, 8, .inl f0_held))] H := hP
        have hD : va_D A [(h0, .inr (6, [.ref h0_held, .ref h0_entryKind, .ref h0_entryX, .ref h0_entryY, .ref h0_entryValue, .int (0 : Int32), .int (8 : Int32)])), (h0_held, .inl (cI, 8, .inl f0_held))] := hD
        have hf := Option.some.inj hf
        subst hf
        exact g_vret hx hb hr hlocks (hP.sub [0, 1] rfl) (hD.sub [0, 1] (by decide) rfl) hK hS dX7_forgetAll_32
      · have hf := ite_e hf c1
        refine lv_aload_n hx hb dX7_forgetAll_8 rfl (lv_at hl 0 rfl) ?_
        refine va_get (D := D) (ci := 6) (v := .ref h0_held) (C := RX7) (T := TX7) (N := 7) hx hb hts iw_X7_forgetAll_X7 hown hK hP 0 rfl rfl 0 (by decide) fl_9 (fun _ h9 => h9) rfl dX7_forgetAll_9 ?_
        refine lv_iload_n hx hb dX7_forgetAll_12 rfl (lv_at hl 1 rfl) ?_
        refine lv_iload_n hx hb dX7_forgetAll_13 rfl (lv_at hl 1 rfl) ?_
        obtain ⟨i2, hf⟩ := gd_some hf
        refine va_iast hx hb hK hP hD hS 1 0 rfl rfl i2 dX7_forgetAll_14 (fun H locs hP hD hS => ?_)
        have hP : va_P D vwCl [(h0, .inr (6, [.ref h0_held, .ref h0_entryKind, .ref h0_entryX, .ref h0_entryY, .ref h0_entryValue, .int v0_entries, .int v0_nextValue])), (h0_held, .inl (cI, 8, .inl (upd f0_held (x1).toNatClampNeg x1)))] H := hP
        have hD : va_D A [(h0, .inr (6, [.ref h0_held, .ref h0_entryKind, .ref h0_entryX, .ref h0_entryY, .ref h0_entryValue, .int v0_entries, .int v0_nextValue])), (h0_held, .inl (cI, 8, .inl (upd f0_held (x1).toNatClampNeg x1)))] := hD
        refine lv_iinc (v := (x1 + (1 : Int32))) (lv' := [(1, .int (x1 + (1 : Int32))), (0, .ref h0)]) hx hb dX7_forgetAll_15 hl (k := 1) rfl rfl (by decide) rfl (fun ls hl => ?_)
        refine lv_goto (tgt := 2) hx hb dX7_forgetAll_18 (by decide) ?_
        exact ih_2 _ _ _ _ _ _ ls hf (hP.sub [0, 1] rfl) (hD.sub [0, 1] (by decide) rfl) hS (lv_sub hl [1, 0] rfl)
  unfold f_X7_forgetAll at hf
  refine lv_iconst (v := (0 : Int32)) hx hb dX7_forgetAll_0 (by decide) ?_
  refine lv_istore_n (lv' := [(1, .int (0 : Int32)), (0, .ref h0)]) hx hb dX7_forgetAll_1 rfl hl (by decide) rfl (fun ls hl => ?_)
  exact hJ_2 n _ _ _ _ _ _ ls hf (hP.sub [0, 1] rfl) (hD.sub [0, 1] (by decide) rfl) hS (lv_sub hl [1, 0] rfl)

def f_X7_beginsBlock (n : Nat) (L1 : Nat) (f1_d : (Nat → Int32)) (f1_kind : (Nat → Int32)) (v1_count : Int32) (x2 : Int32) : Option Int32 := if x2 = 0 then (some (1 : Int32)) else ((f_X6_isTarget n L1 f1_d f1_kind v1_count x2).bind (fun u3 => if u3 = 0 then (gd (x2 - (1 : Int32)) L1 ((f_X2_goesToD (f1_kind ((x2 - (1 : Int32))).toNatClampNeg)).bind (fun u7 => if u7 = 0 then (if (f1_kind ((x2 - (1 : Int32))).toNatClampNeg) = (12 : Int32) then (some (1 : Int32)) else (some (0 : Int32))) else (some (1 : Int32))))) else (some (1 : Int32))))
theorem iw_X7_beginsBlock_X6 : ∀ w ∈ wsX60, w ∈ wsX7_beginsBlock := by decide +kernel
set_option maxHeartbeats 4000000 in
set_option maxRecDepth 100000 in
theorem c_X7_beginsBlock (l : Launch) (D : va_G) (cI cZ : ClassId) (h0 h1 h1_kind h1_d h1_a h1_b : Nat) (sz : Nat) (L1 : Nat) (f1_d f1_kind : Nat → Int32) (v1_count : Int32) (n : Nat) (x2 : Int32) (res : Int32) (hf : f_X7_beginsBlock n L1 f1_d f1_kind v1_count x2 = some res) : Ct_i l yX7_beginsBlock wsX7_beginsBlock ({ frames := 2, cells := 0, slots := 0, locals := 42 }) D [(cI, .int), (cZ, .boolean)] [.ref h0, .ref h1, .int x2] sz [(h1, .inr (5, [.ref h1_kind, .ref h1_d, .ref h1_a, .ref h1_b, .int v1_count])), (h1_d, .inl (cI, L1, .inl f1_d)), (h1_kind, .inl (cI, L1, .inl f1_kind))] res [(h1, .inr (5, [.ref h1_kind, .ref h1_d, .ref h1_a, .ref h1_b, .int v1_count])), (h1_d, .inl (cI, L1, .inl f1_d)), (h1_kind, .inl (cI, L1, .inl f1_kind))] := by
  refine g_of (cc := cX7_beginsBlock) (maxL := 4) (ret := some .boolean) (QQ := (fun A => g_Qi D [(cI, .int), (cZ, .boolean)] A res [(h1, .inr (5, [.ref h1_kind, .ref h1_d, .ref h1_a, .ref h1_b, .int v1_count])), (h1_d, .inl (cI, L1, .inl f1_d)), (h1_kind, .inl (cI, L1, .inl f1_kind))])) (by decide) rfl (Nat.le_of_ble_eq_true rfl) ?_
  intro p e s m args below meth c A ls S hr hlocks hA hP hK hD hl
  show W p l e ({ frames := 2, cells := 0, slots := 0, locals := 42 }) s m args below meth c s.heap [] 0 0 (MQ below (g_Qi D [(cI, .int), (cZ, .boolean)] A res [(h1, .inr (5, [.ref h1_kind, .ref h1_d, .ref h1_a, .ref h1_b, .int v1_count])), (h1_d, .inl (cI, L1, .inl f1_d)), (h1_kind, .inl (cI, L1, .inl f1_kind))]) args s 0 0 A) (F0 m 0 ls [])
  have hx := S.1
  have hb := S.2.1
  have hml := S.2.2.1
  have hown := S.2.2.2.1
  have hts := S.2.2.2.2
  have fl_53 := hts (.fieldLink RX7 53 "PassPipeline$Program" "kind" "[I") (by decide +kernel)
  have hS : va_S A s.heap s.heap [] := va_S.rf
  have hl : lv_has ls 4 [(0, .ref h0), (1, .ref h1), (2, .int x2)] := hl
  unfold f_X7_beginsBlock at hf
  refine lv_iload_n hx hb dX7_beginsBlock_0 rfl (lv_at hl 2 rfl) ?_
  refine lv_if_eq (tgt := 12) hx hb dX7_beginsBlock_1 (by decide) (fun c1 => ?_) (fun c1 => ?_)
  · have hf := ite_t hf c1
    refine lv_iconst (v := (1 : Int32)) hx hb dX7_beginsBlock_12 (by decide) ?_
    have z2 : (1 : Int32) = 0 ∨ (1 : Int32) = 1 := by decide
    have hf := Option.some.inj hf
    subst hf
    exact g_zret hx hb hr hlocks (hP.sub [0, 1, 2] rfl) (hD.sub [0, 1, 2] (by decide) rfl) hK hS rfl z2 dX7_beginsBlock_13
  · have hf := ite_e hf c1
    refine lv_aload_n hx hb dX7_beginsBlock_4 rfl (lv_at hl 1 rfl) ?_
    refine lv_iload_n hx hb dX7_beginsBlock_5 rfl (lv_at hl 2 rfl) ?_
    obtain ⟨u3, g4, hf⟩ := bd_some hf
    refine g_callVi S (c_X6_isTarget l D cI cZ h1 h1_kind h1_d h1_a h1_b _ L1 f1_d f1_kind v1_count n x2 u3 g4) (cwV 1 hts gX7_beginsBlock_X6_isTarget rfl rfl rfl (by decide +kernel) ⟨Nat.le_of_ble_eq_true rfl, Nat.le_of_ble_eq_true rfl⟩) hK hP hD hS hA 0 (ci := 5) rfl rfl [0, 1, 2] [] [] rfl rfl (by decide) (by decide) (by decide) rfl hl.1 rfl (Nat.le_of_ble_eq_true rfl) dX7_beginsBlock_6 ⟨Nat.le_of_ble_eq_true rfl, Nat.le_of_ble_eq_true rfl⟩ (fun H locs hP hD hS => ?_)
    have hP : va_P D vwCl [(h1, .inr (5, [.ref h1_kind, .ref h1_d, .ref h1_a, .ref h1_b, .int v1_count])), (h1_d, .inl (cI, L1, .inl f1_d)), (h1_kind, .inl (cI, L1, .inl f1_kind))] H := hP
    have hD : va_D A [(h1, .inr (5, [.ref h1_kind, .ref h1_d, .ref h1_a, .ref h1_b, .int v1_count])), (h1_d, .inl (cI, L1, .inl f1_d)), (h1_kind, .inl (cI, L1, .inl f1_kind))] := hD
    refine lv_if_eq (tgt := 14) hx hb dX7_beginsBlock_9 (by decide) (fun c5 => ?_) (fun c5 => ?_)
    · have hf := ite_t hf c5
      refine lv_aload_n hx hb dX7_beginsBlock_14 rfl (lv_at hl 1 rfl) ?_
      refine va_get (D := D) (ci := 5) (v := .ref h1_kind) (C := RX6) (T := TX6) (N := 5) hx hb hts iw_X7_beginsBlock_X6 hown hK hP 0 rfl rfl 0 (by decide) fl_53 (fun _ h9 => h9) rfl dX7_beginsBlock_15 ?_
      refine lv_iload_n hx hb dX7_beginsBlock_18 rfl (lv_at hl 2 rfl) ?_
      refine lv_iconst (v := (1 : Int32)) hx hb dX7_beginsBlock_19 (by decide) ?_
      refine lv_isub hx hb dX7_beginsBlock_20 ?_
      obtain ⟨i6, hf⟩ := gd_some hf
      refine va_iald hx hb hK hP 2 0 rfl rfl i6 dX7_beginsBlock_21 ?_
      refine lv_istore_n (lv' := [(3, .int (f1_kind ((x2 - (1 : Int32))).toNatClampNeg)), (0, .ref h0), (1, .ref h1), (2, .int x2)]) hx hb dX7_beginsBlock_22 rfl hl (by decide) rfl (fun ls hl => ?_)
      refine lv_iload_n hx hb dX7_beginsBlock_23 rfl (lv_at hl 0 rfl) ?_
      obtain ⟨u7, g8, hf⟩ := bd_some hf
      refine g_callSi S (c_X2_goesToD l D cI cZ _ (f1_kind ((x2 - (1 : Int32))).toNatClampNeg) u7 g8) (va_cwS 1 hts gX7_beginsBlock_X2_goesToD rfl rfl rfl (by decide +kernel) ⟨Nat.le_of_ble_eq_true rfl, Nat.le_of_ble_eq_true rfl⟩) hK hP hD hS hA [] [0, 1, 2] [(h1, .inr (5, [.ref h1_kind, .ref h1_d, .ref h1_a, .ref h1_b, .int v1_count])), (h1_d, .inl (cI, L1, .inl f1_d)), (h1_kind, .inl (cI, L1, .inl f1_kind))] rfl rfl (by decide) (by decide) (by decide) rfl hl.1 rfl (Nat.le_of_ble_eq_true rfl) dX7_beginsBlock_24 ⟨Nat.le_of_ble_eq_true rfl, Nat.le_of_ble_eq_true rfl⟩ (fun H locs hP hD hS => ?_)
      have hP : va_P D vwCl [(h1, .inr (5, [.ref h1_kind, .ref h1_d, .ref h1_a, .ref h1_b, .int v1_count])), (h1_d, .inl (cI, L1, .inl f1_d)), (h1_kind, .inl (cI, L1, .inl f1_kind))] H := hP
      have hD : va_D A [(h1, .inr (5, [.ref h1_kind, .ref h1_d, .ref h1_a, .ref h1_b, .int v1_count])), (h1_d, .inl (cI, L1, .inl f1_d)), (h1_kind, .inl (cI, L1, .inl f1_kind))] := hD
      refine lv_if_ne (tgt := 36) hx hb dX7_beginsBlock_27 (by decide) (fun c9 => ?_) (fun c9 => ?_)
      · have hf := ite_e hf c9
        refine lv_iconst (v := (1 : Int32)) hx hb dX7_beginsBlock_36 (by decide) ?_
        refine lv_goto (tgt := 41) hx hb dX7_beginsBlock_37 (by decide) ?_
        have z10 : (1 : Int32) = 0 ∨ (1 : Int32) = 1 := by decide
        have hf := Option.some.inj hf
        subst hf
        exact g_zret hx hb hr hlocks (hP.sub [0, 1, 2] rfl) (hD.sub [0, 1, 2] (by decide) rfl) hK hS rfl z10 dX7_beginsBlock_41
      · have hf := ite_t hf c9
        refine lv_iload_n hx hb dX7_beginsBlock_30 rfl (lv_at hl 0 rfl) ?_
        refine lv_bipush (v := (12 : Int32)) hx hb dX7_beginsBlock_31 (by decide +kernel) ?_
        refine lv_icmp_ne (tgt := 40) hx hb dX7_beginsBlock_33 (by decide) (fun c11 => ?_) (fun c11 => ?_)
        · have hf := ite_e hf c11
          refine lv_iconst (v := (0 : Int32)) hx hb dX7_beginsBlock_40 (by decide) ?_
          have z12 : (0 : Int32) = 0 ∨ (0 : Int32) = 1 := by decide
          have hf := Option.some.inj hf
          subst hf
          exact g_zret hx hb hr hlocks (hP.sub [0, 1, 2] rfl) (hD.sub [0, 1, 2] (by decide) rfl) hK hS rfl z12 dX7_beginsBlock_41
        · have hf := ite_t hf c11
          refine lv_iconst (v := (1 : Int32)) hx hb dX7_beginsBlock_36 (by decide) ?_
          refine lv_goto (tgt := 41) hx hb dX7_beginsBlock_37 (by decide) ?_
          have z13 : (1 : Int32) = 0 ∨ (1 : Int32) = 1 := by decide
          have hf := Option.some.inj hf
          subst hf
          exact g_zret hx hb hr hlocks (hP.sub [0, 1, 2] rfl) (hD.sub [0, 1, 2] (by decide) rfl) hK hS rfl z13 dX7_beginsBlock_41
    · have hf := ite_e hf c5
      refine lv_iconst (v := (1 : Int32)) hx hb dX7_beginsBlock_12 (by decide) ?_
      have z14 : (1 : Int32) = 0 ∨ (1 : Int32) = 1 := by decide
      have hf := Option.some.inj hf
      subst hf
      exact g_zret hx hb hr hlocks (hP.sub [0, 1, 2] rfl) (hD.sub [0, 1, 2] (by decide) rfl) hK hS rfl z14 dX7_beginsBlock_13

def f_X7_shareOne_154 (n : Nat)  (L1 : Nat) (f0_entryKind : (Nat → Int32)) (f0_entryValue : (Nat → Int32)) (f0_entryX : (Nat → Int32)) (f0_entryY : (Nat → Int32)) (f0_held : (Nat → Int32)) (f1_a : (Nat → Int32)) (f1_b : (Nat → Int32)) (f1_d : (Nat → Int32)) (f1_kind : (Nat → Int32)) (v0_entries : Int32) (v0_nextValue : Int32) (x2 x3 x4 x5 x6 x7 x8 t0 : Int32) : Option (Int32 × (Nat → Int32) × (Nat → Int32) × (Nat → Int32) × (Nat → Int32) × (Nat → Int32) × (Nat → Int32) × (Nat → Int32) × (Nat → Int32) × (Nat → Int32) × Int32 × Int32) := gd x4 8 (if t0 = 0 then (if x8 = (-1 : Int32) then ((f_X6_put L1 f1_a f1_b f1_d f1_kind x2 x3 x4 x5 x6).bind (fun u4 => gb u4.1 (some (u4.1, f0_entryKind, f0_entryValue, f0_entryX, f0_entryY, (upd f0_held (x4).toNatClampNeg x7), u4.2.1, u4.2.2.1, u4.2.2.2.1, u4.2.2.2.2, v0_entries, v0_nextValue)))) else ((f_X6_put L1 f1_a f1_b f1_d f1_kind x2 (2 : Int32) x4 x8 (0 : Int32)).bind (fun u7 => gb u7.1 (some (u7.1, f0_entryKind, f0_entryValue, f0_entryX, f0_entryY, (upd f0_held (x4).toNatClampNeg x7), u7.2.1, u7.2.2.1, u7.2.2.2.1, u7.2.2.2.2, v0_entries, v0_nextValue))))) else ((f_X6_put L1 f1_a f1_b f1_d f1_kind x2 (0 : Int32) (0 : Int32) (0 : Int32) (0 : Int32)).bind (fun u10 => gb u10.1 (some (u10.1, f0_entryKind, f0_entryValue, f0_entryX, f0_entryY, (upd f0_held (x4).toNatClampNeg x7), u10.2.1, u10.2.2.1, u10.2.2.2.1, u10.2.2.2.2, v0_entries, v0_nextValue)))))
def f_X7_shareOne_129 (n : Nat)  (L1 : Nat) (f0_entryKind : (Nat → Int32)) (f0_entryValue : (Nat → Int32)) (f0_entryX : (Nat → Int32)) (f0_entryY : (Nat → Int32)) (f0_held : (Nat → Int32)) (f1_a : (Nat → Int32)) (f1_b : (Nat → Int32)) (f1_d : (Nat → Int32)) (f1_kind : (Nat → Int32)) (v0_entries : Int32) (v0_nextValue : Int32) (x2 x3 x4 x5 x6 x7 t0 : Int32) : Option (Int32 × (Nat → Int32) × (Nat → Int32) × (Nat → Int32) × (Nat → Int32) × (Nat → Int32) × (Nat → Int32) × (Nat → Int32) × (Nat → Int32) × (Nat → Int32) × Int32 × Int32) := if t0 = (-1 : Int32) then (f_X7_shareOne_154 n L1 f0_entryKind f0_entryValue f0_entryX f0_entryY f0_held f1_a f1_b f1_d f1_kind v0_entries v0_nextValue x2 x3 x4 x5 x6 x7 t0 (0 : Int32)) else (gd x4 8 (if (f0_held (x4).toNatClampNeg) = x7 then (f_X7_shareOne_154 n L1 f0_entryKind f0_entryValue f0_entryX f0_entryY f0_held f1_a f1_b f1_d f1_kind v0_entries v0_nextValue x2 x3 x4 x5 x6 x7 t0 (1 : Int32)) else (f_X7_shareOne_154 n L1 f0_entryKind f0_entryValue f0_entryX f0_entryY f0_held f1_a f1_b f1_d f1_kind v0_entries v0_nextValue x2 x3 x4 x5 x6 x7 t0 (0 : Int32))))
def f_X7_shareOne_79 (n : Nat)  (L1 : Nat) (f0_entryKind : (Nat → Int32)) (f0_entryValue : (Nat → Int32)) (f0_entryX : (Nat → Int32)) (f0_entryY : (Nat → Int32)) (f0_held : (Nat → Int32)) (f1_a : (Nat → Int32)) (f1_b : (Nat → Int32)) (f1_d : (Nat → Int32)) (f1_kind : (Nat → Int32)) (v0_entries : Int32) (v0_nextValue : Int32) (x2 x3 x4 x5 t0 : Int32) : Option (Int32 × (Nat → Int32) × (Nat → Int32) × (Nat → Int32) × (Nat → Int32) × (Nat → Int32) × (Nat → Int32) × (Nat → Int32) × (Nat → Int32) × (Nat → Int32) × Int32 × Int32) := (f_X2_writesD x3).bind (fun u16 => if u16 = 0 then ((f_X6_put L1 f1_a f1_b f1_d f1_kind x2 x3 x4 x5 t0).bind (fun u26 => gb u26.1 (some (u26.1, f0_entryKind, f0_entryValue, f0_entryX, f0_entryY, f0_held, u26.2.1, u26.2.2.1, u26.2.2.2.1, u26.2.2.2.2, v0_entries, v0_nextValue)))) else ((f_X7_givenValue n f0_entryKind f0_entryValue f0_entryX f0_entryY f0_held v0_entries v0_nextValue x3 x5 t0).bind (fun u19 => (f_X2_onlyGivesD x3).bind (fun u21 => if u21 = 0 then (f_X7_shareOne_129 n L1 u19.2.1 u19.2.2.1 u19.2.2.2.1 u19.2.2.2.2.1 f0_held f1_a f1_b f1_d f1_kind u19.2.2.2.2.2.1 u19.2.2.2.2.2.2 x2 x3 x4 x5 t0 u19.1 (-1 : Int32)) else ((f_X7_lowestHolder n f0_held u19.1).bind (fun u24 => f_X7_shareOne_129 n L1 u19.2.1 u19.2.2.1 u19.2.2.2.1 u19.2.2.2.2.1 f0_held f1_a f1_b f1_d f1_kind u19.2.2.2.2.2.1 u19.2.2.2.2.2.2 x2 x3 x4 x5 t0 u19.1 u24))))))
def f_X7_shareOne_46 (n : Nat)  (L1 : Nat) (f0_entryKind : (Nat → Int32)) (f0_entryValue : (Nat → Int32)) (f0_entryX : (Nat → Int32)) (f0_entryY : (Nat → Int32)) (f0_held : (Nat → Int32)) (f1_a : (Nat → Int32)) (f1_b : (Nat → Int32)) (f1_d : (Nat → Int32)) (f1_kind : (Nat → Int32)) (v0_entries : Int32) (v0_nextValue : Int32) (x2 x3 x4 t0 : Int32) : Option (Int32 × (Nat → Int32) × (Nat → Int32) × (Nat → Int32) × (Nat → Int32) × (Nat → Int32) × (Nat → Int32) × (Nat → Int32) × (Nat → Int32) × (Nat → Int32) × Int32 × Int32) := (f_X2_readsB x3).bind (fun u29 => if u29 = 0 then (gd x2 L1 (f_X7_shareOne_79 n L1 f0_entryKind f0_entryValue f0_entryX f0_entryY f0_held f1_a f1_b f1_d f1_kind v0_entries v0_nextValue x2 x3 x4 t0 (f1_b (x2).toNatClampNeg))) else (gd x2 L1 (gd (f1_b (x2).toNatClampNeg) 8 ((f_X7_lowestHolder n f0_held (f0_held ((f1_b (x2).toNatClampNeg)).toNatClampNeg)).bind (fun u35 => f_X7_shareOne_79 n L1 f0_entryKind f0_entryValue f0_entryX f0_entryY f0_held f1_a f1_b f1_d f1_kind v0_entries v0_nextValue x2 x3 x4 t0 u35)))))
def f_X7_shareOne (n : Nat) (L1 : Nat) (f0_entryKind : (Nat → Int32)) (f0_entryValue : (Nat → Int32)) (f0_entryX : (Nat → Int32)) (f0_entryY : (Nat → Int32)) (f0_held : (Nat → Int32)) (f1_a : (Nat → Int32)) (f1_b : (Nat → Int32)) (f1_d : (Nat → Int32)) (f1_kind : (Nat → Int32)) (v0_entries : Int32) (v0_nextValue : Int32) (x2 : Int32) : Option (Int32 × (Nat → Int32) × (Nat → Int32) × (Nat → Int32) × (Nat → Int32) × (Nat → Int32) × (Nat → Int32) × (Nat → Int32) × (Nat → Int32) × (Nat → Int32) × Int32 × Int32) := gd x2 L1 (gd x2 L1 ((f_X2_readsA (f1_kind (x2).toNatClampNeg)).bind (fun u39 => if u39 = 0 then (gd x2 L1 (f_X7_shareOne_46 n L1 f0_entryKind f0_entryValue f0_entryX f0_entryY f0_held f1_a f1_b f1_d f1_kind v0_entries v0_nextValue x2 (f1_kind (x2).toNatClampNeg) (f1_d (x2).toNatClampNeg) (f1_a (x2).toNatClampNeg))) else (gd x2 L1 (gd (f1_a (x2).toNatClampNeg) 8 ((f_X7_lowestHolder n f0_held (f0_held ((f1_a (x2).toNatClampNeg)).toNatClampNeg)).bind (fun u45 => f_X7_shareOne_46 n L1 f0_entryKind f0_entryValue f0_entryX f0_entryY f0_held f1_a f1_b f1_d f1_kind v0_entries v0_nextValue x2 (f1_kind (x2).toNatClampNeg) (f1_d (x2).toNatClampNeg) u45)))))))
theorem iw_X7_shareOne_X6 : ∀ w ∈ wsX60, w ∈ wsX7_shareOne := by decide +kernel
theorem iw_X7_shareOne_X7 : ∀ w ∈ wsX70, w ∈ wsX7_shareOne := by decide +kernel
set_option maxHeartbeats 4000000 in
set_option maxRecDepth 100000 in
theorem c_X7_shareOne (l : Launch) (D : va_G) (cI cZ : ClassId) (h0 h1 h0_held h0_entryKind h0_entryX h0_entryY h0_entryValue h1_kind h1_d h1_a h1_b : Nat) (sz : Nat) (L1 : Nat) (f0_entryKind f0_entryValue f0_entryX f0_entryY f0_held f1_a f1_b f1_d f1_kind : Nat → Int32) (v0_entries v0_nextValue v1_count : Int32) (n : Nat) (x2 : Int32) (res : (Int32 × (Nat → Int32) × (Nat → Int32) × (Nat → Int32) × (Nat → Int32) × (Nat → Int32) × (Nat → Int32) × (Nat → Int32) × (Nat → Int32) × (Nat → Int32) × Int32 × Int32)) (hf : f_X7_shareOne n L1 f0_entryKind f0_entryValue f0_entryX f0_entryY f0_held f1_a f1_b f1_d f1_kind v0_entries v0_nextValue x2 = some res) : Ct_i l yX7_shareOne wsX7_shareOne ({ frames := 3, cells := 0, slots := 0, locals := 67 }) D [(cI, .int), (cZ, .boolean)] [.ref h0, .ref h1, .int x2] sz [(h0, .inr (6, [.ref h0_held, .ref h0_entryKind, .ref h0_entryX, .ref h0_entryY, .ref h0_entryValue, .int v0_entries, .int v0_nextValue])), (h0_entryKind, .inl (cI, 24, .inl f0_entryKind)), (h0_entryValue, .inl (cI, 24, .inl f0_entryValue)), (h0_entryX, .inl (cI, 24, .inl f0_entryX)), (h0_entryY, .inl (cI, 24, .inl f0_entryY)), (h0_held, .inl (cI, 8, .inl f0_held)), (h1, .inr (5, [.ref h1_kind, .ref h1_d, .ref h1_a, .ref h1_b, .int v1_count])), (h1_a, .inl (cI, L1, .inl f1_a)), (h1_b, .inl (cI, L1, .inl f1_b)), (h1_d, .inl (cI, L1, .inl f1_d)), (h1_kind, .inl (cI, L1, .inl f1_kind))] res.1 [(h0, .inr (6, [.ref h0_held, .ref h0_entryKind, .ref h0_entryX, .ref h0_entryY, .ref h0_entryValue, .int res.2.2.2.2.2.2.2.2.2.2.1, .int res.2.2.2.2.2.2.2.2.2.2.2])), (h0_entryKind, .inl (cI, 24, .inl res.2.1)), (h0_entryValue, .inl (cI, 24, .inl res.2.2.1)), (h0_entryX, .inl (cI, 24, .inl res.2.2.2.1)), (h0_entryY, .inl (cI, 24, .inl res.2.2.2.2.1)), (h0_held, .inl (cI, 8, .inl res.2.2.2.2.2.1)), (h1, .inr (5, [.ref h1_kind, .ref h1_d, .ref h1_a, .ref h1_b, .int v1_count])), (h1_a, .inl (cI, L1, .inl res.2.2.2.2.2.2.1)), (h1_b, .inl (cI, L1, .inl res.2.2.2.2.2.2.2.1)), (h1_d, .inl (cI, L1, .inl res.2.2.2.2.2.2.2.2.1)), (h1_kind, .inl (cI, L1, .inl res.2.2.2.2.2.2.2.2.2.1))] := by
  refine g_of (cc := cX7_shareOne) (maxL := 10) (ret := some .boolean) (QQ := (fun A => g_Qi D [(cI, .int), (cZ, .boolean)] A res.1 [(h0, .inr (6, [.ref h0_held, .ref h0_entryKind, .ref h0_entryX, .ref h0_entryY, .ref h0_entryValue, .int res.2.2.2.2.2.2.2.2.2.2.1, .int res.2.2.2.2.2.2.2.2.2.2.2])), (h0_entryKind, .inl (cI, 24, .inl res.2.1)), (h0_entryValue, .inl (cI, 24, .inl res.2.2.1)), (h0_entryX, .inl (cI, 24, .inl res.2.2.2.1)), (h0_entryY, .inl (cI, 24, .inl res.2.2.2.2.1)), (h0_held, .inl (cI, 8, .inl res.2.2.2.2.2.1)), (h1, .inr (5, [.ref h1_kind, .ref h1_d, .ref h1_a, .ref h1_b, .int v1_count])), (h1_a, .inl (cI, L1, .inl res.2.2.2.2.2.2.1)), (h1_b, .inl (cI, L1, .inl res.2.2.2.2.2.2.2.1)), (h1_d, .inl (cI, L1, .inl res.2.2.2.2.2.2.2.2.1)), (h1_kind, .inl (cI, L1, .inl res.2.2.2.2.2.2.2.2.2.1))])) (by decide) rfl (Nat.le_of_ble_eq_true rfl) ?_
  intro p e s m args below meth c A ls S hr hlocks hA hP hK hD hl
  show W p l e ({ frames := 3, cells := 0, slots := 0, locals := 67 }) s m args below meth c s.heap [] 0 0 (MQ below (g_Qi D [(cI, .int), (cZ, .boolean)] A res.1 [(h0, .inr (6, [.ref h0_held, .ref h0_entryKind, .ref h0_entryX, .ref h0_entryY, .ref h0_entryValue, .int res.2.2.2.2.2.2.2.2.2.2.1, .int res.2.2.2.2.2.2.2.2.2.2.2])), (h0_entryKind, .inl (cI, 24, .inl res.2.1)), (h0_entryValue, .inl (cI, 24, .inl res.2.2.1)), (h0_entryX, .inl (cI, 24, .inl res.2.2.2.1)), (h0_entryY, .inl (cI, 24, .inl res.2.2.2.2.1)), (h0_held, .inl (cI, 8, .inl res.2.2.2.2.2.1)), (h1, .inr (5, [.ref h1_kind, .ref h1_d, .ref h1_a, .ref h1_b, .int v1_count])), (h1_a, .inl (cI, L1, .inl res.2.2.2.2.2.2.1)), (h1_b, .inl (cI, L1, .inl res.2.2.2.2.2.2.2.1)), (h1_d, .inl (cI, L1, .inl res.2.2.2.2.2.2.2.2.1)), (h1_kind, .inl (cI, L1, .inl res.2.2.2.2.2.2.2.2.2.1))]) args s 0 0 A) (F0 m 0 ls [])
  have hx := S.1
  have hb := S.2.1
  have hml := S.2.2.1
  have hown := S.2.2.2.1
  have hts := S.2.2.2.2
  have fl_53 := hts (.fieldLink RX7 53 "PassPipeline$Program" "kind" "[I") (by decide +kernel)
  have fl_61 := hts (.fieldLink RX7 61 "PassPipeline$Program" "d" "[I") (by decide +kernel)
  have fl_67 := hts (.fieldLink RX7 67 "PassPipeline$Program" "a" "[I") (by decide +kernel)
  have fl_77 := hts (.fieldLink RX7 77 "PassPipeline$Program" "b" "[I") (by decide +kernel)
  have fl_9 := hts (.fieldLink RX7 9 "PassPipeline$Sharing" "held" "[I") (by decide +kernel)
  have hS : va_S A s.heap s.heap [] := va_S.rf
  have hl : lv_has ls 10 [(0, .ref h0), (1, .ref h1), (2, .int x2)] := hl
  have hJ_154 : ∀ (f0_entryKind : (Nat → Int32)) (f0_entryValue : (Nat → Int32)) (f0_entryX : (Nat → Int32)) (f0_entryY : (Nat → Int32)) (f0_held : (Nat → Int32)) (f1_a : (Nat → Int32)) (f1_b : (Nat → Int32)) (f1_d : (Nat → Int32)) (f1_kind : (Nat → Int32)) (v0_entries : Int32) (v0_nextValue : Int32) (x2 x3 x4 x5 x6 x7 x8 t0 : Int32) (H : Heap) (locs : List Loc) (ls : Array Slot), f_X7_shareOne_154 n L1 f0_entryKind f0_entryValue f0_entryX f0_entryY f0_held f1_a f1_b f1_d f1_kind v0_entries v0_nextValue x2 x3 x4 x5 x6 x7 x8 t0 = some res → va_P D vwCl [(h0, .inr (6, [.ref h0_held, .ref h0_entryKind, .ref h0_entryX, .ref h0_entryY, .ref h0_entryValue, .int v0_entries, .int v0_nextValue])), (h0_entryKind, .inl (cI, 24, .inl f0_entryKind)), (h0_entryValue, .inl (cI, 24, .inl f0_entryValue)), (h0_entryX, .inl (cI, 24, .inl f0_entryX)), (h0_entryY, .inl (cI, 24, .inl f0_entryY)), (h0_held, .inl (cI, 8, .inl f0_held)), (h1, .inr (5, [.ref h1_kind, .ref h1_d, .ref h1_a, .ref h1_b, .int v1_count])), (h1_a, .inl (cI, L1, .inl f1_a)), (h1_b, .inl (cI, L1, .inl f1_b)), (h1_d, .inl (cI, L1, .inl f1_d)), (h1_kind, .inl (cI, L1, .inl f1_kind))] H → va_D A [(h0, .inr (6, [.ref h0_held, .ref h0_entryKind, .ref h0_entryX, .ref h0_entryY, .ref h0_entryValue, .int v0_entries, .int v0_nextValue])), (h0_entryKind, .inl (cI, 24, .inl f0_entryKind)), (h0_entryValue, .inl (cI, 24, .inl f0_entryValue)), (h0_entryX, .inl (cI, 24, .inl f0_entryX)), (h0_entryY, .inl (cI, 24, .inl f0_entryY)), (h0_held, .inl (cI, 8, .inl f0_held)), (h1, .inr (5, [.ref h1_kind, .ref h1_d, .ref h1_a, .ref h1_b, .int v1_count])), (h1_a, .inl (cI, L1, .inl f1_a)), (h1_b, .inl (cI, L1, .inl f1_b)), (h1_d, .inl (cI, L1, .inl f1_d)), (h1_kind, .inl (cI, L1, .inl f1_kind))] → va_S A s.heap H locs → lv_has ls 10 [(0, .ref h0), (1, .ref h1), (2, .int x2), (3, .int x3), (4, .int x4), (5, .int x5), (6, .int x6), (7, .int x7), (8, .int x8)] → W p l e ({ frames := 3, cells := 0, slots := 0, locals := 67 }) s m args below meth c H locs 0 0 (MQ below (g_Qi D [(cI, .int), (cZ, .boolean)] A res.1 [(h0, .inr (6, [.ref h0_held, .ref h0_entryKind, .ref h0_entryX, .ref h0_entryY, .ref h0_entryValue, .int res.2.2.2.2.2.2.2.2.2.2.1, .int res.2.2.2.2.2.2.2.2.2.2.2])), (h0_entryKind, .inl (cI, 24, .inl res.2.1)), (h0_entryValue, .inl (cI, 24, .inl res.2.2.1)), (h0_entryX, .inl (cI, 24, .inl res.2.2.2.1)), (h0_entryY, .inl (cI, 24, .inl res.2.2.2.2.1)), (h0_held, .inl (cI, 8, .inl res.2.2.2.2.2.1)), (h1, .inr (5, [.ref h1_kind, .ref h1_d, .ref h1_a, .ref h1_b, .int v1_count])), (h1_a, .inl (cI, L1, .inl res.2.2.2.2.2.2.1)), (h1_b, .inl (cI, L1, .inl res.2.2.2.2.2.2.2.1)), (h1_d, .inl (cI, L1, .inl res.2.2.2.2.2.2.2.2.1)), (h1_kind, .inl (cI, L1, .inl res.2.2.2.2.2.2.2.2.2.1))]) args s 0 0 A) (F0 m 154 ls [.int t0]) := by
    intro f0_entryKind f0_entryValue f0_entryX f0_entryY f0_held f1_a f1_b f1_d f1_kind v0_entries v0_nextValue x2 x3 x4 x5 x6 x7 x8 t0 H locs ls hf hP hD hS hl
    unfold f_X7_shareOne_154 at hf
    refine lv_istore (lv' := [(9, .int t0), (0, .ref h0), (1, .ref h1), (2, .int x2), (3, .int x3), (4, .int x4), (5, .int x5), (6, .int x6), (7, .int x7), (8, .int x8)]) hx hb dX7_shareOne_154 hl (by decide) rfl (fun ls hl => ?_)
    refine lv_aload_n hx hb dX7_shareOne_156 rfl (lv_at hl 1 rfl) ?_
    refine va_get (D := D) (ci := 6) (v := .ref h0_held) (C := RX7) (T := TX7) (N := 7) hx hb hts iw_X7_shareOne_X7 hown hK hP 0 rfl rfl 0 (by decide) fl_9 (fun _ h9 => h9) rfl dX7_shareOne_157 ?_
    refine lv_iload hx hb dX7_shareOne_160 (lv_at hl 5 rfl) ?_
    refine lv_iload hx hb dX7_shareOne_162 (lv_at hl 8 rfl) ?_
    obtain ⟨i1, hf⟩ := gd_some hf
    refine va_iast hx hb hK hP hD hS 5 0 rfl rfl i1 dX7_shareOne_164 (fun H locs hP hD hS => ?_)
    have hP : va_P D vwCl [(h0, .inr (6, [.ref h0_held, .ref h0_entryKind, .ref h0_entryX, .ref h0_entryY, .ref h0_entryValue, .int v0_entries, .int v0_nextValue])), (h0_entryKind, .inl (cI, 24, .inl f0_entryKind)), (h0_entryValue, .inl (cI, 24, .inl f0_entryValue)), (h0_entryX, .inl (cI, 24, .inl f0_entryX)), (h0_entryY, .inl (cI, 24, .inl f0_entryY)), (h0_held, .inl (cI, 8, .inl (upd f0_held (x4).toNatClampNeg x7))), (h1, .inr (5, [.ref h1_kind, .ref h1_d, .ref h1_a, .ref h1_b, .int v1_count])), (h1_a, .inl (cI, L1, .inl f1_a)), (h1_b, .inl (cI, L1, .inl f1_b)), (h1_d, .inl (cI, L1, .inl f1_d)), (h1_kind, .inl (cI, L1, .inl f1_kind))] H := hP
    have hD : va_D A [(h0, .inr (6, [.ref h0_held, .ref h0_entryKind, .ref h0_entryX, .ref h0_entryY, .ref h0_entryValue, .int v0_entries, .int v0_nextValue])), (h0_entryKind, .inl (cI, 24, .inl f0_entryKind)), (h0_entryValue, .inl (cI, 24, .inl f0_entryValue)), (h0_entryX, .inl (cI, 24, .inl f0_entryX)), (h0_entryY, .inl (cI, 24, .inl f0_entryY)), (h0_held, .inl (cI, 8, .inl (upd f0_held (x4).toNatClampNeg x7))), (h1, .inr (5, [.ref h1_kind, .ref h1_d, .ref h1_a, .ref h1_b, .int v1_count])), (h1_a, .inl (cI, L1, .inl f1_a)), (h1_b, .inl (cI, L1, .inl f1_b)), (h1_d, .inl (cI, L1, .inl f1_d)), (h1_kind, .inl (cI, L1, .inl f1_kind))] := hD
    refine lv_iload hx hb dX7_shareOne_165 (lv_at hl 0 rfl) ?_
    refine lv_if_eq (tgt := 180) hx hb dX7_shareOne_167 (by decide) (fun c2 => ?_) (fun c2 => ?_)
    · have hf := ite_t hf c2
      refine lv_iload hx hb dX7_shareOne_180 (lv_at hl 9 rfl) ?_
      refine lv_iconst (v := (-1 : Int32)) hx hb dX7_shareOne_182 (by decide) ?_
      refine lv_icmp_eq (tgt := 198) hx hb dX7_shareOne_183 (by decide) (fun c3 => ?_) (fun c3 => ?_)
      · have hf := ite_t hf c3
        refine lv_aload_n hx hb dX7_shareOne_198 rfl (lv_at hl 2 rfl) ?_
        refine lv_iload_n hx hb dX7_shareOne_199 rfl (lv_at hl 3 rfl) ?_
        refine lv_iload_n hx hb dX7_shareOne_200 rfl (lv_at hl 4 rfl) ?_
        refine lv_iload hx hb dX7_shareOne_201 (lv_at hl 5 rfl) ?_
        refine lv_iload hx hb dX7_shareOne_203 (lv_at hl 6 rfl) ?_
        refine lv_iload hx hb dX7_shareOne_205 (lv_at hl 7 rfl) ?_
        obtain ⟨u4, g5, hf⟩ := bd_some hf
        refine g_callVi S (c_X6_put l D cI cZ h1 h1_kind h1_d h1_a h1_b _ L1 f1_a f1_b f1_d f1_kind v1_count x2 x3 x4 x5 x6 u4 g5) (cwV 5 hts gX7_shareOne_X6_put rfl rfl rfl (by decide +kernel) ⟨Nat.le_of_ble_eq_true rfl, Nat.le_of_ble_eq_true rfl⟩) hK hP hD hS hA 6 (ci := 5) rfl rfl [6, 7, 8, 9, 10] [0, 1, 2, 3, 4, 5] [(h0, .inr (6, [.ref h0_held, .ref h0_entryKind, .ref h0_entryX, .ref h0_entryY, .ref h0_entryValue, .int v0_entries, .int v0_nextValue])), (h0_entryKind, .inl (cI, 24, .inl f0_entryKind)), (h0_entryValue, .inl (cI, 24, .inl f0_entryValue)), (h0_entryX, .inl (cI, 24, .inl f0_entryX)), (h0_entryY, .inl (cI, 24, .inl f0_entryY)), (h0_held, .inl (cI, 8, .inl (upd f0_held (x4).toNatClampNeg x7)))] rfl rfl (by decide) (by decide) (by decide) rfl hl.1 rfl (Nat.le_of_ble_eq_true rfl) dX7_shareOne_207 ⟨Nat.le_of_ble_eq_true rfl, Nat.le_of_ble_eq_true rfl⟩ (fun H locs hP hD hS => ?_)
        have hP : va_P D vwCl [(h0, .inr (6, [.ref h0_held, .ref h0_entryKind, .ref h0_entryX, .ref h0_entryY, .ref h0_entryValue, .int v0_entries, .int v0_nextValue])), (h0_entryKind, .inl (cI, 24, .inl f0_entryKind)), (h0_entryValue, .inl (cI, 24, .inl f0_entryValue)), (h0_entryX, .inl (cI, 24, .inl f0_entryX)), (h0_entryY, .inl (cI, 24, .inl f0_entryY)), (h0_held, .inl (cI, 8, .inl (upd f0_held (x4).toNatClampNeg x7))), (h1, .inr (5, [.ref h1_kind, .ref h1_d, .ref h1_a, .ref h1_b, .int v1_count])), (h1_a, .inl (cI, L1, .inl u4.2.1)), (h1_b, .inl (cI, L1, .inl u4.2.2.1)), (h1_d, .inl (cI, L1, .inl u4.2.2.2.1)), (h1_kind, .inl (cI, L1, .inl u4.2.2.2.2))] H := hP
        have hD : va_D A [(h0, .inr (6, [.ref h0_held, .ref h0_entryKind, .ref h0_entryX, .ref h0_entryY, .ref h0_entryValue, .int v0_entries, .int v0_nextValue])), (h0_entryKind, .inl (cI, 24, .inl f0_entryKind)), (h0_entryValue, .inl (cI, 24, .inl f0_entryValue)), (h0_entryX, .inl (cI, 24, .inl f0_entryX)), (h0_entryY, .inl (cI, 24, .inl f0_entryY)), (h0_held, .inl (cI, 8, .inl (upd f0_held (x4).toNatClampNeg x7))), (h1, .inr (5, [.ref h1_kind, .ref h1_d, .ref h1_a, .ref h1_b, .int v1_count])), (h1_a, .inl (cI, L1, .inl u4.2.1)), (h1_b, .inl (cI, L1, .inl u4.2.2.1)), (h1_d, .inl (cI, L1, .inl u4.2.2.2.1)), (h1_kind, .inl (cI, L1, .inl u4.2.2.2.2))] := hD
        obtain ⟨z6, hf⟩ := gb_some hf
        have hf := Option.some.inj hf
        subst hf
        exact g_zret hx hb hr hlocks (hP.sub [0, 1, 2, 3, 4, 5, 6, 7, 8, 9, 10] rfl) (hD.sub [0, 1, 2, 3, 4, 5, 6, 7, 8, 9, 10] (by decide) rfl) hK hS rfl z6 dX7_shareOne_210
      · have hf := ite_e hf c3
        refine lv_aload_n hx hb dX7_shareOne_186 rfl (lv_at hl 2 rfl) ?_
        refine lv_iload_n hx hb dX7_shareOne_187 rfl (lv_at hl 3 rfl) ?_
        refine lv_iconst (v := (2 : Int32)) hx hb dX7_shareOne_188 (by decide) ?_
        refine lv_iload hx hb dX7_shareOne_189 (lv_at hl 5 rfl) ?_
        refine lv_iload hx hb dX7_shareOne_191 (lv_at hl 9 rfl) ?_
        refine lv_iconst (v := (0 : Int32)) hx hb dX7_shareOne_193 (by decide) ?_
        obtain ⟨u7, g8, hf⟩ := bd_some hf
        refine g_callVi S (c_X6_put l D cI cZ h1 h1_kind h1_d h1_a h1_b _ L1 f1_a f1_b f1_d f1_kind v1_count x2 (2 : Int32) x4 x8 (0 : Int32) u7 g8) (cwV 5 hts gX7_shareOne_X6_put rfl rfl rfl (by decide +kernel) ⟨Nat.le_of_ble_eq_true rfl, Nat.le_of_ble_eq_true rfl⟩) hK hP hD hS hA 6 (ci := 5) rfl rfl [6, 7, 8, 9, 10] [0, 1, 2, 3, 4, 5] [(h0, .inr (6, [.ref h0_held, .ref h0_entryKind, .ref h0_entryX, .ref h0_entryY, .ref h0_entryValue, .int v0_entries, .int v0_nextValue])), (h0_entryKind, .inl (cI, 24, .inl f0_entryKind)), (h0_entryValue, .inl (cI, 24, .inl f0_entryValue)), (h0_entryX, .inl (cI, 24, .inl f0_entryX)), (h0_entryY, .inl (cI, 24, .inl f0_entryY)), (h0_held, .inl (cI, 8, .inl (upd f0_held (x4).toNatClampNeg x7)))] rfl rfl (by decide) (by decide) (by decide) rfl hl.1 rfl (Nat.le_of_ble_eq_true rfl) dX7_shareOne_194 ⟨Nat.le_of_ble_eq_true rfl, Nat.le_of_ble_eq_true rfl⟩ (fun H locs hP hD hS => ?_)
        have hP : va_P D vwCl [(h0, .inr (6, [.ref h0_held, .ref h0_entryKind, .ref h0_entryX, .ref h0_entryY, .ref h0_entryValue, .int v0_entries, .int v0_nextValue])), (h0_entryKind, .inl (cI, 24, .inl f0_entryKind)), (h0_entryValue, .inl (cI, 24, .inl f0_entryValue)), (h0_entryX, .inl (cI, 24, .inl f0_entryX)), (h0_entryY, .inl (cI, 24, .inl f0_entryY)), (h0_held, .inl (cI, 8, .inl (upd f0_held (x4).toNatClampNeg x7))), (h1, .inr (5, [.ref h1_kind, .ref h1_d, .ref h1_a, .ref h1_b, .int v1_count])), (h1_a, .inl (cI, L1, .inl u7.2.1)), (h1_b, .inl (cI, L1, .inl u7.2.2.1)), (h1_d, .inl (cI, L1, .inl u7.2.2.2.1)), (h1_kind, .inl (cI, L1, .inl u7.2.2.2.2))] H := hP
        have hD : va_D A [(h0, .inr (6, [.ref h0_held, .ref h0_entryKind, .ref h0_entryX, .ref h0_entryY, .ref h0_entryValue, .int v0_entries, .int v0_nextValue])), (h0_entryKind, .inl (cI, 24, .inl f0_entryKind)), (h0_entryValue, .inl (cI, 24, .inl f0_entryValue)), (h0_entryX, .inl (cI, 24, .inl f0_entryX)), (h0_entryY, .inl (cI, 24, .inl f0_entryY)), (h0_held, .inl (cI, 8, .inl (upd f0_held (x4).toNatClampNeg x7))), (h1, .inr (5, [.ref h1_kind, .ref h1_d, .ref h1_a, .ref h1_b, .int v1_count])), (h1_a, .inl (cI, L1, .inl u7.2.1)), (h1_b, .inl (cI, L1, .inl u7.2.2.1)), (h1_d, .inl (cI, L1, .inl u7.2.2.2.1)), (h1_kind, .inl (cI, L1, .inl u7.2.2.2.2))] := hD
        obtain ⟨z9, hf⟩ := gb_some hf
        have hf := Option.some.inj hf
        subst hf
        exact g_zret hx hb hr hlocks (hP.sub [0, 1, 2, 3, 4, 5, 6, 7, 8, 9, 10] rfl) (hD.sub [0, 1, 2, 3, 4, 5, 6, 7, 8, 9, 10] (by decide) rfl) hK hS rfl z9 dX7_shareOne_197
    · have hf := ite_e hf c2
      refine lv_aload_n hx hb dX7_shareOne_170 rfl (lv_at hl 2 rfl) ?_
      refine lv_iload_n hx hb dX7_shareOne_171 rfl (lv_at hl 3 rfl) ?_
      refine lv_iconst (v := (0 : Int32)) hx hb dX7_shareOne_172 (by decide) ?_
      refine lv_iconst (v := (0 : Int32)) hx hb dX7_shareOne_173 (by decide) ?_
      refine lv_iconst (v := (0 : Int32)) hx hb dX7_shareOne_174 (by decide) ?_
      refine lv_iconst (v := (0 : Int32)) hx hb dX7_shareOne_175 (by decide) ?_
      obtain ⟨u10, g11, hf⟩ := bd_some hf
      refine g_callVi S (c_X6_put l D cI cZ h1 h1_kind h1_d h1_a h1_b _ L1 f1_a f1_b f1_d f1_kind v1_count x2 (0 : Int32) (0 : Int32) (0 : Int32) (0 : Int32) u10 g11) (cwV 5 hts gX7_shareOne_X6_put rfl rfl rfl (by decide +kernel) ⟨Nat.le_of_ble_eq_true rfl, Nat.le_of_ble_eq_true rfl⟩) hK hP hD hS hA 6 (ci := 5) rfl rfl [6, 7, 8, 9, 10] [0, 1, 2, 3, 4, 5] [(h0, .inr (6, [.ref h0_held, .ref h0_entryKind, .ref h0_entryX, .ref h0_entryY, .ref h0_entryValue, .int v0_entries, .int v0_nextValue])), (h0_entryKind, .inl (cI, 24, .inl f0_entryKind)), (h0_entryValue, .inl (cI, 24, .inl f0_entryValue)), (h0_entryX, .inl (cI, 24, .inl f0_entryX)), (h0_entryY, .inl (cI, 24, .inl f0_entryY)), (h0_held, .inl (cI, 8, .inl (upd f0_held (x4).toNatClampNeg x7)))] rfl rfl (by decide) (by decide) (by decide) rfl hl.1 rfl (Nat.le_of_ble_eq_true rfl) dX7_shareOne_176 ⟨Nat.le_of_ble_eq_true rfl, Nat.le_of_ble_eq_true rfl⟩ (fun H locs hP hD hS => ?_)
      have hP : va_P D vwCl [(h0, .inr (6, [.ref h0_held, .ref h0_entryKind, .ref h0_entryX, .ref h0_entryY, .ref h0_entryValue, .int v0_entries, .int v0_nextValue])), (h0_entryKind, .inl (cI, 24, .inl f0_entryKind)), (h0_entryValue, .inl (cI, 24, .inl f0_entryValue)), (h0_entryX, .inl (cI, 24, .inl f0_entryX)), (h0_entryY, .inl (cI, 24, .inl f0_entryY)), (h0_held, .inl (cI, 8, .inl (upd f0_held (x4).toNatClampNeg x7))), (h1, .inr (5, [.ref h1_kind, .ref h1_d, .ref h1_a, .ref h1_b, .int v1_count])), (h1_a, .inl (cI, L1, .inl u10.2.1)), (h1_b, .inl (cI, L1, .inl u10.2.2.1)), (h1_d, .inl (cI, L1, .inl u10.2.2.2.1)), (h1_kind, .inl (cI, L1, .inl u10.2.2.2.2))] H := hP
      have hD : va_D A [(h0, .inr (6, [.ref h0_held, .ref h0_entryKind, .ref h0_entryX, .ref h0_entryY, .ref h0_entryValue, .int v0_entries, .int v0_nextValue])), (h0_entryKind, .inl (cI, 24, .inl f0_entryKind)), (h0_entryValue, .inl (cI, 24, .inl f0_entryValue)), (h0_entryX, .inl (cI, 24, .inl f0_entryX)), (h0_entryY, .inl (cI, 24, .inl f0_entryY)), (h0_held, .inl (cI, 8, .inl (upd f0_held (x4).toNatClampNeg x7))), (h1, .inr (5, [.ref h1_kind, .ref h1_d, .ref h1_a, .ref h1_b, .int v1_count])), (h1_a, .inl (cI, L1, .inl u10.2.1)), (h1_b, .inl (cI, L1, .inl u10.2.2.1)), (h1_d, .inl (cI, L1, .inl u10.2.2.2.1)), (h1_kind, .inl (cI, L1, .inl u10.2.2.2.2))] := hD
      obtain ⟨z12, hf⟩ := gb_some hf
      have hf := Option.some.inj hf
      subst hf
      exact g_zret hx hb hr hlocks (hP.sub [0, 1, 2, 3, 4, 5, 6, 7, 8, 9, 10] rfl) (hD.sub [0, 1, 2, 3, 4, 5, 6, 7, 8, 9, 10] (by decide) rfl) hK hS rfl z12 dX7_shareOne_179
  have hJ_129 : ∀ (f0_entryKind : (Nat → Int32)) (f0_entryValue : (Nat → Int32)) (f0_entryX : (Nat → Int32)) (f0_entryY : (Nat → Int32)) (f0_held : (Nat → Int32)) (f1_a : (Nat → Int32)) (f1_b : (Nat → Int32)) (f1_d : (Nat → Int32)) (f1_kind : (Nat → Int32)) (v0_entries : Int32) (v0_nextValue : Int32) (x2 x3 x4 x5 x6 x7 t0 : Int32) (H : Heap) (locs : List Loc) (ls : Array Slot), f_X7_shareOne_129 n L1 f0_entryKind f0_entryValue f0_entryX f0_entryY f0_held f1_a f1_b f1_d f1_kind v0_entries v0_nextValue x2 x3 x4 x5 x6 x7 t0 = some res → va_P D vwCl [(h0, .inr (6, [.ref h0_held, .ref h0_entryKind, .ref h0_entryX, .ref h0_entryY, .ref h0_entryValue, .int v0_entries, .int v0_nextValue])), (h0_entryKind, .inl (cI, 24, .inl f0_entryKind)), (h0_entryValue, .inl (cI, 24, .inl f0_entryValue)), (h0_entryX, .inl (cI, 24, .inl f0_entryX)), (h0_entryY, .inl (cI, 24, .inl f0_entryY)), (h0_held, .inl (cI, 8, .inl f0_held)), (h1, .inr (5, [.ref h1_kind, .ref h1_d, .ref h1_a, .ref h1_b, .int v1_count])), (h1_a, .inl (cI, L1, .inl f1_a)), (h1_b, .inl (cI, L1, .inl f1_b)), (h1_d, .inl (cI, L1, .inl f1_d)), (h1_kind, .inl (cI, L1, .inl f1_kind))] H → va_D A [(h0, .inr (6, [.ref h0_held, .ref h0_entryKind, .ref h0_entryX, .ref h0_entryY, .ref h0_entryValue, .int v0_entries, .int v0_nextValue])), (h0_entryKind, .inl (cI, 24, .inl f0_entryKind)), (h0_entryValue, .inl (cI, 24, .inl f0_entryValue)), (h0_entryX, .inl (cI, 24, .inl f0_entryX)), (h0_entryY, .inl (cI, 24, .inl f0_entryY)), (h0_held, .inl (cI, 8, .inl f0_held)), (h1, .inr (5, [.ref h1_kind, .ref h1_d, .ref h1_a, .ref h1_b, .int v1_count])), (h1_a, .inl (cI, L1, .inl f1_a)), (h1_b, .inl (cI, L1, .inl f1_b)), (h1_d, .inl (cI, L1, .inl f1_d)), (h1_kind, .inl (cI, L1, .inl f1_kind))] → va_S A s.heap H locs → lv_has ls 10 [(0, .ref h0), (1, .ref h1), (2, .int x2), (3, .int x3), (4, .int x4), (5, .int x5), (6, .int x6), (7, .int x7)] → W p l e ({ frames := 3, cells := 0, slots := 0, locals := 67 }) s m args below meth c H locs 0 0 (MQ below (g_Qi D [(cI, .int), (cZ, .boolean)] A res.1 [(h0, .inr (6, [.ref h0_held, .ref h0_entryKind, .ref h0_entryX, .ref h0_entryY, .ref h0_entryValue, .int res.2.2.2.2.2.2.2.2.2.2.1, .int res.2.2.2.2.2.2.2.2.2.2.2])), (h0_entryKind, .inl (cI, 24, .inl res.2.1)), (h0_entryValue, .inl (cI, 24, .inl res.2.2.1)), (h0_entryX, .inl (cI, 24, .inl res.2.2.2.1)), (h0_entryY, .inl (cI, 24, .inl res.2.2.2.2.1)), (h0_held, .inl (cI, 8, .inl res.2.2.2.2.2.1)), (h1, .inr (5, [.ref h1_kind, .ref h1_d, .ref h1_a, .ref h1_b, .int v1_count])), (h1_a, .inl (cI, L1, .inl res.2.2.2.2.2.2.1)), (h1_b, .inl (cI, L1, .inl res.2.2.2.2.2.2.2.1)), (h1_d, .inl (cI, L1, .inl res.2.2.2.2.2.2.2.2.1)), (h1_kind, .inl (cI, L1, .inl res.2.2.2.2.2.2.2.2.2.1))]) args s 0 0 A) (F0 m 129 ls [.int t0]) := by
    intro f0_entryKind f0_entryValue f0_entryX f0_entryY f0_held f1_a f1_b f1_d f1_kind v0_entries v0_nextValue x2 x3 x4 x5 x6 x7 t0 H locs ls hf hP hD hS hl
    unfold f_X7_shareOne_129 at hf
    refine lv_istore (lv' := [(8, .int t0), (0, .ref h0), (1, .ref h1), (2, .int x2), (3, .int x3), (4, .int x4), (5, .int x5), (6, .int x6), (7, .int x7)]) hx hb dX7_shareOne_129 hl (by decide) rfl (fun ls hl => ?_)
    refine lv_iload hx hb dX7_shareOne_131 (lv_at hl 0 rfl) ?_
    refine lv_iconst (v := (-1 : Int32)) hx hb dX7_shareOne_133 (by decide) ?_
    refine lv_icmp_eq (tgt := 153) hx hb dX7_shareOne_134 (by decide) (fun c13 => ?_) (fun c13 => ?_)
    · have hf := ite_t hf c13
      refine lv_iconst (v := (0 : Int32)) hx hb dX7_shareOne_153 (by decide) ?_
      exact hJ_154 _ _ _ _ _ _ _ _ _ _ _ _ _ _ _ _ _ _ _ _ _ ls hf (hP.sub [0, 1, 2, 3, 4, 5, 6, 7, 8, 9, 10] rfl) (hD.sub [0, 1, 2, 3, 4, 5, 6, 7, 8, 9, 10] (by decide) rfl) hS (lv_sub hl [1, 2, 3, 4, 5, 6, 7, 8, 0] rfl)
    · have hf := ite_e hf c13
      refine lv_aload_n hx hb dX7_shareOne_137 rfl (lv_at hl 1 rfl) ?_
      refine va_get (D := D) (ci := 6) (v := .ref h0_held) (C := RX7) (T := TX7) (N := 7) hx hb hts iw_X7_shareOne_X7 hown hK hP 0 rfl rfl 0 (by decide) fl_9 (fun _ h9 => h9) rfl dX7_shareOne_138 ?_
      refine lv_iload hx hb dX7_shareOne_141 (lv_at hl 5 rfl) ?_
      obtain ⟨i14, hf⟩ := gd_some hf
      refine va_iald hx hb hK hP 5 0 rfl rfl i14 dX7_shareOne_143 ?_
      refine lv_iload hx hb dX7_shareOne_144 (lv_at hl 8 rfl) ?_
      refine lv_icmp_ne (tgt := 153) hx hb dX7_shareOne_146 (by decide) (fun c15 => ?_) (fun c15 => ?_)
      · have hf := ite_e hf c15
        refine lv_iconst (v := (0 : Int32)) hx hb dX7_shareOne_153 (by decide) ?_
        exact hJ_154 _ _ _ _ _ _ _ _ _ _ _ _ _ _ _ _ _ _ _ _ _ ls hf (hP.sub [0, 1, 2, 3, 4, 5, 6, 7, 8, 9, 10] rfl) (hD.sub [0, 1, 2, 3, 4, 5, 6, 7, 8, 9, 10] (by decide) rfl) hS (lv_sub hl [1, 2, 3, 4, 5, 6, 7, 8, 0] rfl)
      · have hf := ite_t hf c15
        refine lv_iconst (v := (1 : Int32)) hx hb dX7_shareOne_149 (by decide) ?_
        refine lv_goto (tgt := 154) hx hb dX7_shareOne_150 (by decide) ?_
        exact hJ_154 _ _ _ _ _ _ _ _ _ _ _ _ _ _ _ _ _ _ _ _ _ ls hf (hP.sub [0, 1, 2, 3, 4, 5, 6, 7, 8, 9, 10] rfl) (hD.sub [0, 1, 2, 3, 4, 5, 6, 7, 8, 9, 10] (by decide) rfl) hS (lv_sub hl [1, 2, 3, 4, 5, 6, 7, 8, 0] rfl)
  have hJ_79 : ∀ (f0_entryKind : (Nat → Int32)) (f0_entryValue : (Nat → Int32)) (f0_entryX : (Nat → Int32)) (f0_entryY : (Nat → Int32)) (f0_held : (Nat → Int32)) (f1_a : (Nat → Int32)) (f1_b : (Nat → Int32)) (f1_d : (Nat → Int32)) (f1_kind : (Nat → Int32)) (v0_entries : Int32) (v0_nextValue : Int32) (x2 x3 x4 x5 t0 : Int32) (H : Heap) (locs : List Loc) (ls : Array Slot), f_X7_shareOne_79 n L1 f0_entryKind f0_entryValue f0_entryX f0_entryY f0_held f1_a f1_b f1_d f1_kind v0_entries v0_nextValue x2 x3 x4 x5 t0 = some res → va_P D vwCl [(h0, .inr (6, [.ref h0_held, .ref h0_entryKind, .ref h0_entryX, .ref h0_entryY, .ref h0_entryValue, .int v0_entries, .int v0_nextValue])), (h0_entryKind, .inl (cI, 24, .inl f0_entryKind)), (h0_entryValue, .inl (cI, 24, .inl f0_entryValue)), (h0_entryX, .inl (cI, 24, .inl f0_entryX)), (h0_entryY, .inl (cI, 24, .inl f0_entryY)), (h0_held, .inl (cI, 8, .inl f0_held)), (h1, .inr (5, [.ref h1_kind, .ref h1_d, .ref h1_a, .ref h1_b, .int v1_count])), (h1_a, .inl (cI, L1, .inl f1_a)), (h1_b, .inl (cI, L1, .inl f1_b)), (h1_d, .inl (cI, L1, .inl f1_d)), (h1_kind, .inl (cI, L1, .inl f1_kind))] H → va_D A [(h0, .inr (6, [.ref h0_held, .ref h0_entryKind, .ref h0_entryX, .ref h0_entryY, .ref h0_entryValue, .int v0_entries, .int v0_nextValue])), (h0_entryKind, .inl (cI, 24, .inl f0_entryKind)), (h0_entryValue, .inl (cI, 24, .inl f0_entryValue)), (h0_entryX, .inl (cI, 24, .inl f0_entryX)), (h0_entryY, .inl (cI, 24, .inl f0_entryY)), (h0_held, .inl (cI, 8, .inl f0_held)), (h1, .inr (5, [.ref h1_kind, .ref h1_d, .ref h1_a, .ref h1_b, .int v1_count])), (h1_a, .inl (cI, L1, .inl f1_a)), (h1_b, .inl (cI, L1, .inl f1_b)), (h1_d, .inl (cI, L1, .inl f1_d)), (h1_kind, .inl (cI, L1, .inl f1_kind))] → va_S A s.heap H locs → lv_has ls 10 [(0, .ref h0), (1, .ref h1), (2, .int x2), (3, .int x3), (4, .int x4), (5, .int x5)] → W p l e ({ frames := 3, cells := 0, slots := 0, locals := 67 }) s m args below meth c H locs 0 0 (MQ below (g_Qi D [(cI, .int), (cZ, .boolean)] A res.1 [(h0, .inr (6, [.ref h0_held, .ref h0_entryKind, .ref h0_entryX, .ref h0_entryY, .ref h0_entryValue, .int res.2.2.2.2.2.2.2.2.2.2.1, .int res.2.2.2.2.2.2.2.2.2.2.2])), (h0_entryKind, .inl (cI, 24, .inl res.2.1)), (h0_entryValue, .inl (cI, 24, .inl res.2.2.1)), (h0_entryX, .inl (cI, 24, .inl res.2.2.2.1)), (h0_entryY, .inl (cI, 24, .inl res.2.2.2.2.1)), (h0_held, .inl (cI, 8, .inl res.2.2.2.2.2.1)), (h1, .inr (5, [.ref h1_kind, .ref h1_d, .ref h1_a, .ref h1_b, .int v1_count])), (h1_a, .inl (cI, L1, .inl res.2.2.2.2.2.2.1)), (h1_b, .inl (cI, L1, .inl res.2.2.2.2.2.2.2.1)), (h1_d, .inl (cI, L1, .inl res.2.2.2.2.2.2.2.2.1)), (h1_kind, .inl (cI, L1, .inl res.2.2.2.2.2.2.2.2.2.1))]) args s 0 0 A) (F0 m 79 ls [.int t0]) := by
    intro f0_entryKind f0_entryValue f0_entryX f0_entryY f0_held f1_a f1_b f1_d f1_kind v0_entries v0_nextValue x2 x3 x4 x5 t0 H locs ls hf hP hD hS hl
    unfold f_X7_shareOne_79 at hf
    refine lv_istore (lv' := [(6, .int t0), (0, .ref h0), (1, .ref h1), (2, .int x2), (3, .int x3), (4, .int x4), (5, .int x5)]) hx hb dX7_shareOne_79 hl (by decide) rfl (fun ls hl => ?_)
    refine lv_iload_n hx hb dX7_shareOne_81 rfl (lv_at hl 4 rfl) ?_
    obtain ⟨u16, g17, hf⟩ := bd_some hf
    refine g_callSi S (c_X2_writesD l D cI cZ _ x3 u16 g17) (va_cwS 1 hts gX7_shareOne_X2_writesD rfl rfl rfl (by decide +kernel) ⟨Nat.le_of_ble_eq_true rfl, Nat.le_of_ble_eq_true rfl⟩) hK hP hD hS hA [] [0, 1, 2, 3, 4, 5, 6, 7, 8, 9, 10] [(h0, .inr (6, [.ref h0_held, .ref h0_entryKind, .ref h0_entryX, .ref h0_entryY, .ref h0_entryValue, .int v0_entries, .int v0_nextValue])), (h0_entryKind, .inl (cI, 24, .inl f0_entryKind)), (h0_entryValue, .inl (cI, 24, .inl f0_entryValue)), (h0_entryX, .inl (cI, 24, .inl f0_entryX)), (h0_entryY, .inl (cI, 24, .inl f0_entryY)), (h0_held, .inl (cI, 8, .inl f0_held)), (h1, .inr (5, [.ref h1_kind, .ref h1_d, .ref h1_a, .ref h1_b, .int v1_count])), (h1_a, .inl (cI, L1, .inl f1_a)), (h1_b, .inl (cI, L1, .inl f1_b)), (h1_d, .inl (cI, L1, .inl f1_d)), (h1_kind, .inl (cI, L1, .inl f1_kind))] rfl rfl (by decide) (by decide) (by decide) rfl hl.1 rfl (Nat.le_of_ble_eq_true rfl) dX7_shareOne_82 ⟨Nat.le_of_ble_eq_true rfl, Nat.le_of_ble_eq_true rfl⟩ (fun H locs hP hD hS => ?_)
    have hP : va_P D vwCl [(h0, .inr (6, [.ref h0_held, .ref h0_entryKind, .ref h0_entryX, .ref h0_entryY, .ref h0_entryValue, .int v0_entries, .int v0_nextValue])), (h0_entryKind, .inl (cI, 24, .inl f0_entryKind)), (h0_entryValue, .inl (cI, 24, .inl f0_entryValue)), (h0_entryX, .inl (cI, 24, .inl f0_entryX)), (h0_entryY, .inl (cI, 24, .inl f0_entryY)), (h0_held, .inl (cI, 8, .inl f0_held)), (h1, .inr (5, [.ref h1_kind, .ref h1_d, .ref h1_a, .ref h1_b, .int v1_count])), (h1_a, .inl (cI, L1, .inl f1_a)), (h1_b, .inl (cI, L1, .inl f1_b)), (h1_d, .inl (cI, L1, .inl f1_d)), (h1_kind, .inl (cI, L1, .inl f1_kind))] H := hP
    have hD : va_D A [(h0, .inr (6, [.ref h0_held, .ref h0_entryKind, .ref h0_entryX, .ref h0_entryY, .ref h0_entryValue, .int v0_entries, .int v0_nextValue])), (h0_entryKind, .inl (cI, 24, .inl f0_entryKind)), (h0_entryValue, .inl (cI, 24, .inl f0_entryValue)), (h0_entryX, .inl (cI, 24, .inl f0_entryX)), (h0_entryY, .inl (cI, 24, .inl f0_entryY)), (h0_held, .inl (cI, 8, .inl f0_held)), (h1, .inr (5, [.ref h1_kind, .ref h1_d, .ref h1_a, .ref h1_b, .int v1_count])), (h1_a, .inl (cI, L1, .inl f1_a)), (h1_b, .inl (cI, L1, .inl f1_b)), (h1_d, .inl (cI, L1, .inl f1_d)), (h1_kind, .inl (cI, L1, .inl f1_kind))] := hD
    refine lv_if_ne (tgt := 101) hx hb dX7_shareOne_85 (by decide) (fun c18 => ?_) (fun c18 => ?_)
    · have hf := ite_e hf c18
      refine lv_aload_n hx hb dX7_shareOne_101 rfl (lv_at hl 1 rfl) ?_
      refine lv_iload_n hx hb dX7_shareOne_102 rfl (lv_at hl 4 rfl) ?_
      refine lv_iload hx hb dX7_shareOne_103 (lv_at hl 6 rfl) ?_
      refine lv_iload hx hb dX7_shareOne_105 (lv_at hl 0 rfl) ?_
      obtain ⟨u19, g20, hf⟩ := bd_some hf
      refine g_callVi S (c_X7_givenValue l D cI cZ h0 h0_held h0_entryKind h0_entryX h0_entryY h0_entryValue _ f0_entryKind f0_entryValue f0_entryX f0_entryY f0_held v0_entries v0_nextValue n x3 x5 t0 u19 g20) (cwV 3 hts gX7_shareOne_X7_givenValue rfl rfl rfl (by decide +kernel) ⟨Nat.le_of_ble_eq_true rfl, Nat.le_of_ble_eq_true rfl⟩) hK hP hD hS hA 0 (ci := 6) rfl rfl [0, 1, 2, 3, 4, 5] [6, 7, 8, 9, 10] [(h1, .inr (5, [.ref h1_kind, .ref h1_d, .ref h1_a, .ref h1_b, .int v1_count])), (h1_a, .inl (cI, L1, .inl f1_a)), (h1_b, .inl (cI, L1, .inl f1_b)), (h1_d, .inl (cI, L1, .inl f1_d)), (h1_kind, .inl (cI, L1, .inl f1_kind))] rfl rfl (by decide) (by decide) (by decide) rfl hl.1 rfl (Nat.le_of_ble_eq_true rfl) dX7_shareOne_107 ⟨Nat.le_of_ble_eq_true rfl, Nat.le_of_ble_eq_true rfl⟩ (fun H locs hP hD hS => ?_)
      have hP : va_P D vwCl [(h1, .inr (5, [.ref h1_kind, .ref h1_d, .ref h1_a, .ref h1_b, .int v1_count])), (h1_a, .inl (cI, L1, .inl f1_a)), (h1_b, .inl (cI, L1, .inl f1_b)), (h1_d, .inl (cI, L1, .inl f1_d)), (h1_kind, .inl (cI, L1, .inl f1_kind)), (h0, .inr (6, [.ref h0_held, .ref h0_entryKind, .ref h0_entryX, .ref h0_entryY, .ref h0_entryValue, .int u19.2.2.2.2.2.1, .int u19.2.2.2.2.2.2])), (h0_entryKind, .inl (cI, 24, .inl u19.2.1)), (h0_entryValue, .inl (cI, 24, .inl u19.2.2.1)), (h0_entryX, .inl (cI, 24, .inl u19.2.2.2.1)), (h0_entryY, .inl (cI, 24, .inl u19.2.2.2.2.1)), (h0_held, .inl (cI, 8, .inl f0_held))] H := hP
      have hD : va_D A [(h1, .inr (5, [.ref h1_kind, .ref h1_d, .ref h1_a, .ref h1_b, .int v1_count])), (h1_a, .inl (cI, L1, .inl f1_a)), (h1_b, .inl (cI, L1, .inl f1_b)), (h1_d, .inl (cI, L1, .inl f1_d)), (h1_kind, .inl (cI, L1, .inl f1_kind)), (h0, .inr (6, [.ref h0_held, .ref h0_entryKind, .ref h0_entryX, .ref h0_entryY, .ref h0_entryValue, .int u19.2.2.2.2.2.1, .int u19.2.2.2.2.2.2])), (h0_entryKind, .inl (cI, 24, .inl u19.2.1)), (h0_entryValue, .inl (cI, 24, .inl u19.2.2.1)), (h0_entryX, .inl (cI, 24, .inl u19.2.2.2.1)), (h0_entryY, .inl (cI, 24, .inl u19.2.2.2.2.1)), (h0_held, .inl (cI, 8, .inl f0_held))] := hD
      refine lv_istore (lv' := [(7, .int u19.1), (6, .int t0), (0, .ref h0), (1, .ref h1), (2, .int x2), (3, .int x3), (4, .int x4), (5, .int x5)]) hx hb dX7_shareOne_110 hl (by decide) rfl (fun ls hl => ?_)
      refine lv_iload_n hx hb dX7_shareOne_112 rfl (lv_at hl 5 rfl) ?_
      obtain ⟨u21, g22, hf⟩ := bd_some hf
      refine g_callSi S (c_X2_onlyGivesD l D cI cZ _ x3 u21 g22) (va_cwS 1 hts gX7_shareOne_X2_onlyGivesD rfl rfl rfl (by decide +kernel) ⟨Nat.le_of_ble_eq_true rfl, Nat.le_of_ble_eq_true rfl⟩) hK hP hD hS hA [] [0, 1, 2, 3, 4, 5, 6, 7, 8, 9, 10] [(h1, .inr (5, [.ref h1_kind, .ref h1_d, .ref h1_a, .ref h1_b, .int v1_count])), (h1_a, .inl (cI, L1, .inl f1_a)), (h1_b, .inl (cI, L1, .inl f1_b)), (h1_d, .inl (cI, L1, .inl f1_d)), (h1_kind, .inl (cI, L1, .inl f1_kind)), (h0, .inr (6, [.ref h0_held, .ref h0_entryKind, .ref h0_entryX, .ref h0_entryY, .ref h0_entryValue, .int u19.2.2.2.2.2.1, .int u19.2.2.2.2.2.2])), (h0_entryKind, .inl (cI, 24, .inl u19.2.1)), (h0_entryValue, .inl (cI, 24, .inl u19.2.2.1)), (h0_entryX, .inl (cI, 24, .inl u19.2.2.2.1)), (h0_entryY, .inl (cI, 24, .inl u19.2.2.2.2.1)), (h0_held, .inl (cI, 8, .inl f0_held))] rfl rfl (by decide) (by decide) (by decide) rfl hl.1 rfl (Nat.le_of_ble_eq_true rfl) dX7_shareOne_113 ⟨Nat.le_of_ble_eq_true rfl, Nat.le_of_ble_eq_true rfl⟩ (fun H locs hP hD hS => ?_)
      have hP : va_P D vwCl [(h1, .inr (5, [.ref h1_kind, .ref h1_d, .ref h1_a, .ref h1_b, .int v1_count])), (h1_a, .inl (cI, L1, .inl f1_a)), (h1_b, .inl (cI, L1, .inl f1_b)), (h1_d, .inl (cI, L1, .inl f1_d)), (h1_kind, .inl (cI, L1, .inl f1_kind)), (h0, .inr (6, [.ref h0_held, .ref h0_entryKind, .ref h0_entryX, .ref h0_entryY, .ref h0_entryValue, .int u19.2.2.2.2.2.1, .int u19.2.2.2.2.2.2])), (h0_entryKind, .inl (cI, 24, .inl u19.2.1)), (h0_entryValue, .inl (cI, 24, .inl u19.2.2.1)), (h0_entryX, .inl (cI, 24, .inl u19.2.2.2.1)), (h0_entryY, .inl (cI, 24, .inl u19.2.2.2.2.1)), (h0_held, .inl (cI, 8, .inl f0_held))] H := hP
      have hD : va_D A [(h1, .inr (5, [.ref h1_kind, .ref h1_d, .ref h1_a, .ref h1_b, .int v1_count])), (h1_a, .inl (cI, L1, .inl f1_a)), (h1_b, .inl (cI, L1, .inl f1_b)), (h1_d, .inl (cI, L1, .inl f1_d)), (h1_kind, .inl (cI, L1, .inl f1_kind)), (h0, .inr (6, [.ref h0_held, .ref h0_entryKind, .ref h0_entryX, .ref h0_entryY, .ref h0_entryValue, .int u19.2.2.2.2.2.1, .int u19.2.2.2.2.2.2])), (h0_entryKind, .inl (cI, 24, .inl u19.2.1)), (h0_entryValue, .inl (cI, 24, .inl u19.2.2.1)), (h0_entryX, .inl (cI, 24, .inl u19.2.2.2.1)), (h0_entryY, .inl (cI, 24, .inl u19.2.2.2.2.1)), (h0_held, .inl (cI, 8, .inl f0_held))] := hD
      refine lv_if_eq (tgt := 128) hx hb dX7_shareOne_116 (by decide) (fun c23 => ?_) (fun c23 => ?_)
      · have hf := ite_t hf c23
        refine lv_iconst (v := (-1 : Int32)) hx hb dX7_shareOne_128 (by decide) ?_
        exact hJ_129 _ _ _ _ _ _ _ _ _ _ _ _ _ _ _ _ _ _ _ _ ls hf (hP.sub [5, 6, 7, 8, 9, 10, 0, 1, 2, 3, 4] rfl) (hD.sub [5, 6, 7, 8, 9, 10, 0, 1, 2, 3, 4] (by decide) rfl) hS (lv_sub hl [2, 3, 4, 5, 6, 7, 1, 0] rfl)
      · have hf := ite_e hf c23
        refine lv_aload_n hx hb dX7_shareOne_119 rfl (lv_at hl 2 rfl) ?_
        refine lv_iload hx hb dX7_shareOne_120 (lv_at hl 0 rfl) ?_
        obtain ⟨u24, g25, hf⟩ := bd_some hf
        refine g_callVi S (c_X7_lowestHolder l D cI cZ h0 h0_held h0_entryKind h0_entryX h0_entryY h0_entryValue _ f0_held u19.2.2.2.2.2.1 u19.2.2.2.2.2.2 n u19.1 u24 g25) (cwV 1 hts gX7_shareOne_X7_lowestHolder rfl rfl rfl (by decide +kernel) ⟨Nat.le_of_ble_eq_true rfl, Nat.le_of_ble_eq_true rfl⟩) hK hP hD hS hA 5 (ci := 6) rfl rfl [5, 10] [0, 1, 2, 3, 4, 6, 7, 8, 9] [(h1, .inr (5, [.ref h1_kind, .ref h1_d, .ref h1_a, .ref h1_b, .int v1_count])), (h1_a, .inl (cI, L1, .inl f1_a)), (h1_b, .inl (cI, L1, .inl f1_b)), (h1_d, .inl (cI, L1, .inl f1_d)), (h1_kind, .inl (cI, L1, .inl f1_kind)), (h0_entryKind, .inl (cI, 24, .inl u19.2.1)), (h0_entryValue, .inl (cI, 24, .inl u19.2.2.1)), (h0_entryX, .inl (cI, 24, .inl u19.2.2.2.1)), (h0_entryY, .inl (cI, 24, .inl u19.2.2.2.2.1))] rfl rfl (by decide) (by decide) (by decide) rfl hl.1 rfl (Nat.le_of_ble_eq_true rfl) dX7_shareOne_122 ⟨Nat.le_of_ble_eq_true rfl, Nat.le_of_ble_eq_true rfl⟩ (fun H locs hP hD hS => ?_)
        have hP : va_P D vwCl [(h1, .inr (5, [.ref h1_kind, .ref h1_d, .ref h1_a, .ref h1_b, .int v1_count])), (h1_a, .inl (cI, L1, .inl f1_a)), (h1_b, .inl (cI, L1, .inl f1_b)), (h1_d, .inl (cI, L1, .inl f1_d)), (h1_kind, .inl (cI, L1, .inl f1_kind)), (h0_entryKind, .inl (cI, 24, .inl u19.2.1)), (h0_entryValue, .inl (cI, 24, .inl u19.2.2.1)), (h0_entryX, .inl (cI, 24, .inl u19.2.2.2.1)), (h0_entryY, .inl (cI, 24, .inl u19.2.2.2.2.1)), (h0, .inr (6, [.ref h0_held, .ref h0_entryKind, .ref h0_entryX, .ref h0_entryY, .ref h0_entryValue, .int u19.2.2.2.2.2.1, .int u19.2.2.2.2.2.2])), (h0_held, .inl (cI, 8, .inl f0_held))] H := hP
        have hD : va_D A [(h1, .inr (5, [.ref h1_kind, .ref h1_d, .ref h1_a, .ref h1_b, .int v1_count])), (h1_a, .inl (cI, L1, .inl f1_a)), (h1_b, .inl (cI, L1, .inl f1_b)), (h1_d, .inl (cI, L1, .inl f1_d)), (h1_kind, .inl (cI, L1, .inl f1_kind)), (h0_entryKind, .inl (cI, 24, .inl u19.2.1)), (h0_entryValue, .inl (cI, 24, .inl u19.2.2.1)), (h0_entryX, .inl (cI, 24, .inl u19.2.2.2.1)), (h0_entryY, .inl (cI, 24, .inl u19.2.2.2.2.1)), (h0, .inr (6, [.ref h0_held, .ref h0_entryKind, .ref h0_entryX, .ref h0_entryY, .ref h0_entryValue, .int u19.2.2.2.2.2.1, .int u19.2.2.2.2.2.2])), (h0_held, .inl (cI, 8, .inl f0_held))] := hD
        refine lv_goto (tgt := 129) hx hb dX7_shareOne_125 (by decide) ?_
        exact hJ_129 _ _ _ _ _ _ _ _ _ _ _ _ _ _ _ _ _ _ _ _ ls hf (hP.sub [9, 5, 6, 7, 8, 10, 0, 1, 2, 3, 4] rfl) (hD.sub [9, 5, 6, 7, 8, 10, 0, 1, 2, 3, 4] (by decide) rfl) hS (lv_sub hl [2, 3, 4, 5, 6, 7, 1, 0] rfl)
    · have hf := ite_t hf c18
      refine lv_aload_n hx hb dX7_shareOne_88 rfl (lv_at hl 2 rfl) ?_
      refine lv_iload_n hx hb dX7_shareOne_89 rfl (lv_at hl 3 rfl) ?_
      refine lv_iload_n hx hb dX7_shareOne_90 rfl (lv_at hl 4 rfl) ?_
      refine lv_iload hx hb dX7_shareOne_91 (lv_at hl 5 rfl) ?_
      refine lv_iload hx hb dX7_shareOne_93 (lv_at hl 6 rfl) ?_
      refine lv_iload hx hb dX7_shareOne_95 (lv_at hl 0 rfl) ?_
      obtain ⟨u26, g27, hf⟩ := bd_some hf
      refine g_callVi S (c_X6_put l D cI cZ h1 h1_kind h1_d h1_a h1_b _ L1 f1_a f1_b f1_d f1_kind v1_count x2 x3 x4 x5 t0 u26 g27) (cwV 5 hts gX7_shareOne_X6_put rfl rfl rfl (by decide +kernel) ⟨Nat.le_of_ble_eq_true rfl, Nat.le_of_ble_eq_true rfl⟩) hK hP hD hS hA 6 (ci := 5) rfl rfl [6, 7, 8, 9, 10] [0, 1, 2, 3, 4, 5] [(h0, .inr (6, [.ref h0_held, .ref h0_entryKind, .ref h0_entryX, .ref h0_entryY, .ref h0_entryValue, .int v0_entries, .int v0_nextValue])), (h0_entryKind, .inl (cI, 24, .inl f0_entryKind)), (h0_entryValue, .inl (cI, 24, .inl f0_entryValue)), (h0_entryX, .inl (cI, 24, .inl f0_entryX)), (h0_entryY, .inl (cI, 24, .inl f0_entryY)), (h0_held, .inl (cI, 8, .inl f0_held))] rfl rfl (by decide) (by decide) (by decide) rfl hl.1 rfl (Nat.le_of_ble_eq_true rfl) dX7_shareOne_97 ⟨Nat.le_of_ble_eq_true rfl, Nat.le_of_ble_eq_true rfl⟩ (fun H locs hP hD hS => ?_)
      have hP : va_P D vwCl [(h0, .inr (6, [.ref h0_held, .ref h0_entryKind, .ref h0_entryX, .ref h0_entryY, .ref h0_entryValue, .int v0_entries, .int v0_nextValue])), (h0_entryKind, .inl (cI, 24, .inl f0_entryKind)), (h0_entryValue, .inl (cI, 24, .inl f0_entryValue)), (h0_entryX, .inl (cI, 24, .inl f0_entryX)), (h0_entryY, .inl (cI, 24, .inl f0_entryY)), (h0_held, .inl (cI, 8, .inl f0_held)), (h1, .inr (5, [.ref h1_kind, .ref h1_d, .ref h1_a, .ref h1_b, .int v1_count])), (h1_a, .inl (cI, L1, .inl u26.2.1)), (h1_b, .inl (cI, L1, .inl u26.2.2.1)), (h1_d, .inl (cI, L1, .inl u26.2.2.2.1)), (h1_kind, .inl (cI, L1, .inl u26.2.2.2.2))] H := hP
      have hD : va_D A [(h0, .inr (6, [.ref h0_held, .ref h0_entryKind, .ref h0_entryX, .ref h0_entryY, .ref h0_entryValue, .int v0_entries, .int v0_nextValue])), (h0_entryKind, .inl (cI, 24, .inl f0_entryKind)), (h0_entryValue, .inl (cI, 24, .inl f0_entryValue)), (h0_entryX, .inl (cI, 24, .inl f0_entryX)), (h0_entryY, .inl (cI, 24, .inl f0_entryY)), (h0_held, .inl (cI, 8, .inl f0_held)), (h1, .inr (5, [.ref h1_kind, .ref h1_d, .ref h1_a, .ref h1_b, .int v1_count])), (h1_a, .inl (cI, L1, .inl u26.2.1)), (h1_b, .inl (cI, L1, .inl u26.2.2.1)), (h1_d, .inl (cI, L1, .inl u26.2.2.2.1)), (h1_kind, .inl (cI, L1, .inl u26.2.2.2.2))] := hD
      obtain ⟨z28, hf⟩ := gb_some hf
      have hf := Option.some.inj hf
      subst hf
      exact g_zret hx hb hr hlocks (hP.sub [0, 1, 2, 3, 4, 5, 6, 7, 8, 9, 10] rfl) (hD.sub [0, 1, 2, 3, 4, 5, 6, 7, 8, 9, 10] (by decide) rfl) hK hS rfl z28 dX7_shareOne_100
  have hJ_46 : ∀ (f0_entryKind : (Nat → Int32)) (f0_entryValue : (Nat → Int32)) (f0_entryX : (Nat → Int32)) (f0_entryY : (Nat → Int32)) (f0_held : (Nat → Int32)) (f1_a : (Nat → Int32)) (f1_b : (Nat → Int32)) (f1_d : (Nat → Int32)) (f1_kind : (Nat → Int32)) (v0_entries : Int32) (v0_nextValue : Int32) (x2 x3 x4 t0 : Int32) (H : Heap) (locs : List Loc) (ls : Array Slot), f_X7_shareOne_46 n L1 f0_entryKind f0_entryValue f0_entryX f0_entryY f0_held f1_a f1_b f1_d f1_kind v0_entries v0_nextValue x2 x3 x4 t0 = some res → va_P D vwCl [(h0, .inr (6, [.ref h0_held, .ref h0_entryKind, .ref h0_entryX, .ref h0_entryY, .ref h0_entryValue, .int v0_entries, .int v0_nextValue])), (h0_entryKind, .inl (cI, 24, .inl f0_entryKind)), (h0_entryValue, .inl (cI, 24, .inl f0_entryValue)), (h0_entryX, .inl (cI, 24, .inl f0_entryX)), (h0_entryY, .inl (cI, 24, .inl f0_entryY)), (h0_held, .inl (cI, 8, .inl f0_held)), (h1, .inr (5, [.ref h1_kind, .ref h1_d, .ref h1_a, .ref h1_b, .int v1_count])), (h1_a, .inl (cI, L1, .inl f1_a)), (h1_b, .inl (cI, L1, .inl f1_b)), (h1_d, .inl (cI, L1, .inl f1_d)), (h1_kind, .inl (cI, L1, .inl f1_kind))] H → va_D A [(h0, .inr (6, [.ref h0_held, .ref h0_entryKind, .ref h0_entryX, .ref h0_entryY, .ref h0_entryValue, .int v0_entries, .int v0_nextValue])), (h0_entryKind, .inl (cI, 24, .inl f0_entryKind)), (h0_entryValue, .inl (cI, 24, .inl f0_entryValue)), (h0_entryX, .inl (cI, 24, .inl f0_entryX)), (h0_entryY, .inl (cI, 24, .inl f0_entryY)), (h0_held, .inl (cI, 8, .inl f0_held)), (h1, .inr (5, [.ref h1_kind, .ref h1_d, .ref h1_a, .ref h1_b, .int v1_count])), (h1_a, .inl (cI, L1, .inl f1_a)), (h1_b, .inl (cI, L1, .inl f1_b)), (h1_d, .inl (cI, L1, .inl f1_d)), (h1_kind, .inl (cI, L1, .inl f1_kind))] → va_S A s.heap H locs → lv_has ls 10 [(0, .ref h0), (1, .ref h1), (2, .int x2), (3, .int x3), (4, .int x4)] → W p l e ({ frames := 3, cells := 0, slots := 0, locals := 67 }) s m args below meth c H locs 0 0 (MQ below (g_Qi D [(cI, .int), (cZ, .boolean)] A res.1 [(h0, .inr (6, [.ref h0_held, .ref h0_entryKind, .ref h0_entryX, .ref h0_entryY, .ref h0_entryValue, .int res.2.2.2.2.2.2.2.2.2.2.1, .int res.2.2.2.2.2.2.2.2.2.2.2])), (h0_entryKind, .inl (cI, 24, .inl res.2.1)), (h0_entryValue, .inl (cI, 24, .inl res.2.2.1)), (h0_entryX, .inl (cI, 24, .inl res.2.2.2.1)), (h0_entryY, .inl (cI, 24, .inl res.2.2.2.2.1)), (h0_held, .inl (cI, 8, .inl res.2.2.2.2.2.1)), (h1, .inr (5, [.ref h1_kind, .ref h1_d, .ref h1_a, .ref h1_b, .int v1_count])), (h1_a, .inl (cI, L1, .inl res.2.2.2.2.2.2.1)), (h1_b, .inl (cI, L1, .inl res.2.2.2.2.2.2.2.1)), (h1_d, .inl (cI, L1, .inl res.2.2.2.2.2.2.2.2.1)), (h1_kind, .inl (cI, L1, .inl res.2.2.2.2.2.2.2.2.2.1))]) args s 0 0 A) (F0 m 46 ls [.int t0]) := by
    intro f0_entryKind f0_entryValue f0_entryX f0_entryY f0_held f1_a f1_b f1_d f1_kind v0_entries v0_nextValue x2 x3 x4 t0 H locs ls hf hP hD hS hl
    unfold f_X7_shareOne_46 at hf
    refine lv_istore (lv' := [(5, .int t0), (0, .ref h0), (1, .ref h1), (2, .int x2), (3, .int x3), (4, .int x4)]) hx hb dX7_shareOne_46 hl (by decide) rfl (fun ls hl => ?_)
    refine lv_iload_n hx hb dX7_shareOne_48 rfl (lv_at hl 4 rfl) ?_
    obtain ⟨u29, g30, hf⟩ := bd_some hf
    refine g_callSi S (c_X2_readsB l D cI cZ _ x3 u29 g30) (va_cwS 1 hts gX7_shareOne_X2_readsB rfl rfl rfl (by decide +kernel) ⟨Nat.le_of_ble_eq_true rfl, Nat.le_of_ble_eq_true rfl⟩) hK hP hD hS hA [] [0, 1, 2, 3, 4, 5, 6, 7, 8, 9, 10] [(h0, .inr (6, [.ref h0_held, .ref h0_entryKind, .ref h0_entryX, .ref h0_entryY, .ref h0_entryValue, .int v0_entries, .int v0_nextValue])), (h0_entryKind, .inl (cI, 24, .inl f0_entryKind)), (h0_entryValue, .inl (cI, 24, .inl f0_entryValue)), (h0_entryX, .inl (cI, 24, .inl f0_entryX)), (h0_entryY, .inl (cI, 24, .inl f0_entryY)), (h0_held, .inl (cI, 8, .inl f0_held)), (h1, .inr (5, [.ref h1_kind, .ref h1_d, .ref h1_a, .ref h1_b, .int v1_count])), (h1_a, .inl (cI, L1, .inl f1_a)), (h1_b, .inl (cI, L1, .inl f1_b)), (h1_d, .inl (cI, L1, .inl f1_d)), (h1_kind, .inl (cI, L1, .inl f1_kind))] rfl rfl (by decide) (by decide) (by decide) rfl hl.1 rfl (Nat.le_of_ble_eq_true rfl) dX7_shareOne_49 ⟨Nat.le_of_ble_eq_true rfl, Nat.le_of_ble_eq_true rfl⟩ (fun H locs hP hD hS => ?_)
    have hP : va_P D vwCl [(h0, .inr (6, [.ref h0_held, .ref h0_entryKind, .ref h0_entryX, .ref h0_entryY, .ref h0_entryValue, .int v0_entries, .int v0_nextValue])), (h0_entryKind, .inl (cI, 24, .inl f0_entryKind)), (h0_entryValue, .inl (cI, 24, .inl f0_entryValue)), (h0_entryX, .inl (cI, 24, .inl f0_entryX)), (h0_entryY, .inl (cI, 24, .inl f0_entryY)), (h0_held, .inl (cI, 8, .inl f0_held)), (h1, .inr (5, [.ref h1_kind, .ref h1_d, .ref h1_a, .ref h1_b, .int v1_count])), (h1_a, .inl (cI, L1, .inl f1_a)), (h1_b, .inl (cI, L1, .inl f1_b)), (h1_d, .inl (cI, L1, .inl f1_d)), (h1_kind, .inl (cI, L1, .inl f1_kind))] H := hP
    have hD : va_D A [(h0, .inr (6, [.ref h0_held, .ref h0_entryKind, .ref h0_entryX, .ref h0_entryY, .ref h0_entryValue, .int v0_entries, .int v0_nextValue])), (h0_entryKind, .inl (cI, 24, .inl f0_entryKind)), (h0_entryValue, .inl (cI, 24, .inl f0_entryValue)), (h0_entryX, .inl (cI, 24, .inl f0_entryX)), (h0_entryY, .inl (cI, 24, .inl f0_entryY)), (h0_held, .inl (cI, 8, .inl f0_held)), (h1, .inr (5, [.ref h1_kind, .ref h1_d, .ref h1_a, .ref h1_b, .int v1_count])), (h1_a, .inl (cI, L1, .inl f1_a)), (h1_b, .inl (cI, L1, .inl f1_b)), (h1_d, .inl (cI, L1, .inl f1_d)), (h1_kind, .inl (cI, L1, .inl f1_kind))] := hD
    refine lv_if_eq (tgt := 73) hx hb dX7_shareOne_52 (by decide) (fun c31 => ?_) (fun c31 => ?_)
    · have hf := ite_t hf c31
      refine lv_aload_n hx hb dX7_shareOne_73 rfl (lv_at hl 2 rfl) ?_
      refine va_get (D := D) (ci := 5) (v := .ref h1_b) (C := RX6) (T := TX6) (N := 5) hx hb hts iw_X7_shareOne_X6 hown hK hP 6 rfl rfl 3 (by decide) fl_77 (fun _ h9 => h9) rfl dX7_shareOne_74 ?_
      refine lv_iload_n hx hb dX7_shareOne_77 rfl (lv_at hl 3 rfl) ?_
      obtain ⟨i32, hf⟩ := gd_some hf
      refine va_iald hx hb hK hP 8 0 rfl rfl i32 dX7_shareOne_78 ?_
      exact hJ_79 _ _ _ _ _ _ _ _ _ _ _ _ _ _ _ _ _ _ ls hf (hP.sub [0, 1, 2, 3, 4, 5, 6, 7, 8, 9, 10] rfl) (hD.sub [0, 1, 2, 3, 4, 5, 6, 7, 8, 9, 10] (by decide) rfl) hS (lv_sub hl [1, 2, 3, 4, 5, 0] rfl)
    · have hf := ite_e hf c31
      refine lv_aload_n hx hb dX7_shareOne_55 rfl (lv_at hl 1 rfl) ?_
      refine lv_aload_n hx hb dX7_shareOne_56 rfl (lv_at hl 1 rfl) ?_
      refine va_get (D := D) (ci := 6) (v := .ref h0_held) (C := RX7) (T := TX7) (N := 7) hx hb hts iw_X7_shareOne_X7 hown hK hP 0 rfl rfl 0 (by decide) fl_9 (fun _ h9 => h9) rfl dX7_shareOne_57 ?_
      refine lv_aload_n hx hb dX7_shareOne_60 rfl (lv_at hl 2 rfl) ?_
      refine va_get (D := D) (ci := 5) (v := .ref h1_b) (C := RX6) (T := TX6) (N := 5) hx hb hts iw_X7_shareOne_X6 hown hK hP 6 rfl rfl 3 (by decide) fl_77 (fun _ h9 => h9) rfl dX7_shareOne_61 ?_
      refine lv_iload_n hx hb dX7_shareOne_64 rfl (lv_at hl 3 rfl) ?_
      obtain ⟨i33, hf⟩ := gd_some hf
      refine va_iald hx hb hK hP 8 0 rfl rfl i33 dX7_shareOne_65 ?_
      obtain ⟨i34, hf⟩ := gd_some hf
      refine va_iald hx hb hK hP 5 0 rfl rfl i34 dX7_shareOne_66 ?_
      obtain ⟨u35, g36, hf⟩ := bd_some hf
      refine g_callVi S (c_X7_lowestHolder l D cI cZ h0 h0_held h0_entryKind h0_entryX h0_entryY h0_entryValue _ f0_held v0_entries v0_nextValue n (f0_held ((f1_b (x2).toNatClampNeg)).toNatClampNeg) u35 g36) (cwV 1 hts gX7_shareOne_X7_lowestHolder rfl rfl rfl (by decide +kernel) ⟨Nat.le_of_ble_eq_true rfl, Nat.le_of_ble_eq_true rfl⟩) hK hP hD hS hA 0 (ci := 6) rfl rfl [0, 5] [1, 2, 3, 4, 6, 7, 8, 9, 10] [(h0_entryKind, .inl (cI, 24, .inl f0_entryKind)), (h0_entryValue, .inl (cI, 24, .inl f0_entryValue)), (h0_entryX, .inl (cI, 24, .inl f0_entryX)), (h0_entryY, .inl (cI, 24, .inl f0_entryY)), (h1, .inr (5, [.ref h1_kind, .ref h1_d, .ref h1_a, .ref h1_b, .int v1_count])), (h1_a, .inl (cI, L1, .inl f1_a)), (h1_b, .inl (cI, L1, .inl f1_b)), (h1_d, .inl (cI, L1, .inl f1_d)), (h1_kind, .inl (cI, L1, .inl f1_kind))] rfl rfl (by decide) (by decide) (by decide) rfl hl.1 rfl (Nat.le_of_ble_eq_true rfl) dX7_shareOne_67 ⟨Nat.le_of_ble_eq_true rfl, Nat.le_of_ble_eq_true rfl⟩ (fun H locs hP hD hS => ?_)
      have hP : va_P D vwCl [(h0_entryKind, .inl (cI, 24, .inl f0_entryKind)), (h0_entryValue, .inl (cI, 24, .inl f0_entryValue)), (h0_entryX, .inl (cI, 24, .inl f0_entryX)), (h0_entryY, .inl (cI, 24, .inl f0_entryY)), (h1, .inr (5, [.ref h1_kind, .ref h1_d, .ref h1_a, .ref h1_b, .int v1_count])), (h1_a, .inl (cI, L1, .inl f1_a)), (h1_b, .inl (cI, L1, .inl f1_b)), (h1_d, .inl (cI, L1, .inl f1_d)), (h1_kind, .inl (cI, L1, .inl f1_kind)), (h0, .inr (6, [.ref h0_held, .ref h0_entryKind, .ref h0_entryX, .ref h0_entryY, .ref h0_entryValue, .int v0_entries, .int v0_nextValue])), (h0_held, .inl (cI, 8, .inl f0_held))] H := hP
      have hD : va_D A [(h0_entryKind, .inl (cI, 24, .inl f0_entryKind)), (h0_entryValue, .inl (cI, 24, .inl f0_entryValue)), (h0_entryX, .inl (cI, 24, .inl f0_entryX)), (h0_entryY, .inl (cI, 24, .inl f0_entryY)), (h1, .inr (5, [.ref h1_kind, .ref h1_d, .ref h1_a, .ref h1_b, .int v1_count])), (h1_a, .inl (cI, L1, .inl f1_a)), (h1_b, .inl (cI, L1, .inl f1_b)), (h1_d, .inl (cI, L1, .inl f1_d)), (h1_kind, .inl (cI, L1, .inl f1_kind)), (h0, .inr (6, [.ref h0_held, .ref h0_entryKind, .ref h0_entryX, .ref h0_entryY, .ref h0_entryValue, .int v0_entries, .int v0_nextValue])), (h0_held, .inl (cI, 8, .inl f0_held))] := hD
      refine lv_goto (tgt := 79) hx hb dX7_shareOne_70 (by decide) ?_
      exact hJ_79 _ _ _ _ _ _ _ _ _ _ _ _ _ _ _ _ _ _ ls hf (hP.sub [9, 0, 1, 2, 3, 10, 4, 5, 6, 7, 8] rfl) (hD.sub [9, 0, 1, 2, 3, 10, 4, 5, 6, 7, 8] (by decide) rfl) hS (lv_sub hl [1, 2, 3, 4, 5, 0] rfl)
  unfold f_X7_shareOne at hf
  refine lv_aload_n hx hb dX7_shareOne_0 rfl (lv_at hl 1 rfl) ?_
  refine va_get (D := D) (ci := 5) (v := .ref h1_kind) (C := RX6) (T := TX6) (N := 5) hx hb hts iw_X7_shareOne_X6 hown hK hP 6 rfl rfl 0 (by decide) fl_53 (fun _ h9 => h9) rfl dX7_shareOne_1 ?_
  refine lv_iload_n hx hb dX7_shareOne_4 rfl (lv_at hl 2 rfl) ?_
  obtain ⟨i37, hf⟩ := gd_some hf
  refine va_iald hx hb hK hP 10 0 rfl rfl i37 dX7_shareOne_5 ?_
  refine lv_istore_n (lv' := [(3, .int (f1_kind (x2).toNatClampNeg)), (0, .ref h0), (1, .ref h1), (2, .int x2)]) hx hb dX7_shareOne_6 rfl hl (by decide) rfl (fun ls hl => ?_)
  refine lv_aload_n hx hb dX7_shareOne_7 rfl (lv_at hl 2 rfl) ?_
  refine va_get (D := D) (ci := 5) (v := .ref h1_d) (C := RX6) (T := TX6) (N := 5) hx hb hts iw_X7_shareOne_X6 hown hK hP 6 rfl rfl 1 (by decide) fl_61 (fun _ h9 => h9) rfl dX7_shareOne_8 ?_
  refine lv_iload_n hx hb dX7_shareOne_11 rfl (lv_at hl 3 rfl) ?_
  obtain ⟨i38, hf⟩ := gd_some hf
  refine va_iald hx hb hK hP 9 0 rfl rfl i38 dX7_shareOne_12 ?_
  refine lv_istore (lv' := [(4, .int (f1_d (x2).toNatClampNeg)), (3, .int (f1_kind (x2).toNatClampNeg)), (0, .ref h0), (1, .ref h1), (2, .int x2)]) hx hb dX7_shareOne_13 hl (by decide) rfl (fun ls hl => ?_)
  refine lv_iload_n hx hb dX7_shareOne_15 rfl (lv_at hl 1 rfl) ?_
  obtain ⟨u39, g40, hf⟩ := bd_some hf
  refine g_callSi S (c_X2_readsA l D cI cZ _ (f1_kind (x2).toNatClampNeg) u39 g40) (va_cwS 1 hts gX7_shareOne_X2_readsA rfl rfl rfl (by decide +kernel) ⟨Nat.le_of_ble_eq_true rfl, Nat.le_of_ble_eq_true rfl⟩) hK hP hD hS hA [] [0, 1, 2, 3, 4, 5, 6, 7, 8, 9, 10] [(h0, .inr (6, [.ref h0_held, .ref h0_entryKind, .ref h0_entryX, .ref h0_entryY, .ref h0_entryValue, .int v0_entries, .int v0_nextValue])), (h0_entryKind, .inl (cI, 24, .inl f0_entryKind)), (h0_entryValue, .inl (cI, 24, .inl f0_entryValue)), (h0_entryX, .inl (cI, 24, .inl f0_entryX)), (h0_entryY, .inl (cI, 24, .inl f0_entryY)), (h0_held, .inl (cI, 8, .inl f0_held)), (h1, .inr (5, [.ref h1_kind, .ref h1_d, .ref h1_a, .ref h1_b, .int v1_count])), (h1_a, .inl (cI, L1, .inl f1_a)), (h1_b, .inl (cI, L1, .inl f1_b)), (h1_d, .inl (cI, L1, .inl f1_d)), (h1_kind, .inl (cI, L1, .inl f1_kind))] rfl rfl (by decide) (by decide) (by decide) rfl hl.1 rfl (Nat.le_of_ble_eq_true rfl) dX7_shareOne_16 ⟨Nat.le_of_ble_eq_true rfl, Nat.le_of_ble_eq_true rfl⟩ (fun H locs hP hD hS => ?_)
  have hP : va_P D vwCl [(h0, .inr (6, [.ref h0_held, .ref h0_entryKind, .ref h0_entryX, .ref h0_entryY, .ref h0_entryValue, .int v0_entries, .int v0_nextValue])), (h0_entryKind, .inl (cI, 24, .inl f0_entryKind)), (h0_entryValue, .inl (cI, 24, .inl f0_entryValue)), (h0_entryX, .inl (cI, 24, .inl f0_entryX)), (h0_entryY, .inl (cI, 24, .inl f0_entryY)), (h0_held, .inl (cI, 8, .inl f0_held)), (h1, .inr (5, [.ref h1_kind, .ref h1_d, .ref h1_a, .ref h1_b, .int v1_count])), (h1_a, .inl (cI, L1, .inl f1_a)), (h1_b, .inl (cI, L1, .inl f1_b)), (h1_d, .inl (cI, L1, .inl f1_d)), (h1_kind, .inl (cI, L1, .inl f1_kind))] H := hP
  have hD : va_D A [(h0, .inr (6, [.ref h0_held, .ref h0_entryKind, .ref h0_entryX, .ref h0_entryY, .ref h0_entryValue, .int v0_entries, .int v0_nextValue])), (h0_entryKind, .inl (cI, 24, .inl f0_entryKind)), (h0_entryValue, .inl (cI, 24, .inl f0_entryValue)), (h0_entryX, .inl (cI, 24, .inl f0_entryX)), (h0_entryY, .inl (cI, 24, .inl f0_entryY)), (h0_held, .inl (cI, 8, .inl f0_held)), (h1, .inr (5, [.ref h1_kind, .ref h1_d, .ref h1_a, .ref h1_b, .int v1_count])), (h1_a, .inl (cI, L1, .inl f1_a)), (h1_b, .inl (cI, L1, .inl f1_b)), (h1_d, .inl (cI, L1, .inl f1_d)), (h1_kind, .inl (cI, L1, .inl f1_kind))] := hD
  refine lv_if_eq (tgt := 40) hx hb dX7_shareOne_19 (by decide) (fun c41 => ?_) (fun c41 => ?_)
  · have hf := ite_t hf c41
    refine lv_aload_n hx hb dX7_shareOne_40 rfl (lv_at hl 3 rfl) ?_
    refine va_get (D := D) (ci := 5) (v := .ref h1_a) (C := RX6) (T := TX6) (N := 5) hx hb hts iw_X7_shareOne_X6 hown hK hP 6 rfl rfl 2 (by decide) fl_67 (fun _ h9 => h9) rfl dX7_shareOne_41 ?_
    refine lv_iload_n hx hb dX7_shareOne_44 rfl (lv_at hl 4 rfl) ?_
    obtain ⟨i42, hf⟩ := gd_some hf
    refine va_iald hx hb hK hP 7 0 rfl rfl i42 dX7_shareOne_45 ?_
    exact hJ_46 _ _ _ _ _ _ _ _ _ _ _ _ _ _ _ _ _ ls hf (hP.sub [0, 1, 2, 3, 4, 5, 6, 7, 8, 9, 10] rfl) (hD.sub [0, 1, 2, 3, 4, 5, 6, 7, 8, 9, 10] (by decide) rfl) hS (lv_sub hl [2, 3, 4, 1, 0] rfl)
  · have hf := ite_e hf c41
    refine lv_aload_n hx hb dX7_shareOne_22 rfl (lv_at hl 2 rfl) ?_
    refine lv_aload_n hx hb dX7_shareOne_23 rfl (lv_at hl 2 rfl) ?_
    refine va_get (D := D) (ci := 6) (v := .ref h0_held) (C := RX7) (T := TX7) (N := 7) hx hb hts iw_X7_shareOne_X7 hown hK hP 0 rfl rfl 0 (by decide) fl_9 (fun _ h9 => h9) rfl dX7_shareOne_24 ?_
    refine lv_aload_n hx hb dX7_shareOne_27 rfl (lv_at hl 3 rfl) ?_
    refine va_get (D := D) (ci := 5) (v := .ref h1_a) (C := RX6) (T := TX6) (N := 5) hx hb hts iw_X7_shareOne_X6 hown hK hP 6 rfl rfl 2 (by decide) fl_67 (fun _ h9 => h9) rfl dX7_shareOne_28 ?_
    refine lv_iload_n hx hb dX7_shareOne_31 rfl (lv_at hl 4 rfl) ?_
    obtain ⟨i43, hf⟩ := gd_some hf
    refine va_iald hx hb hK hP 7 0 rfl rfl i43 dX7_shareOne_32 ?_
    obtain ⟨i44, hf⟩ := gd_some hf
    refine va_iald hx hb hK hP 5 0 rfl rfl i44 dX7_shareOne_33 ?_
    obtain ⟨u45, g46, hf⟩ := bd_some hf
    refine g_callVi S (c_X7_lowestHolder l D cI cZ h0 h0_held h0_entryKind h0_entryX h0_entryY h0_entryValue _ f0_held v0_entries v0_nextValue n (f0_held ((f1_a (x2).toNatClampNeg)).toNatClampNeg) u45 g46) (cwV 1 hts gX7_shareOne_X7_lowestHolder rfl rfl rfl (by decide +kernel) ⟨Nat.le_of_ble_eq_true rfl, Nat.le_of_ble_eq_true rfl⟩) hK hP hD hS hA 0 (ci := 6) rfl rfl [0, 5] [1, 2, 3, 4, 6, 7, 8, 9, 10] [(h0_entryKind, .inl (cI, 24, .inl f0_entryKind)), (h0_entryValue, .inl (cI, 24, .inl f0_entryValue)), (h0_entryX, .inl (cI, 24, .inl f0_entryX)), (h0_entryY, .inl (cI, 24, .inl f0_entryY)), (h1, .inr (5, [.ref h1_kind, .ref h1_d, .ref h1_a, .ref h1_b, .int v1_count])), (h1_a, .inl (cI, L1, .inl f1_a)), (h1_b, .inl (cI, L1, .inl f1_b)), (h1_d, .inl (cI, L1, .inl f1_d)), (h1_kind, .inl (cI, L1, .inl f1_kind))] rfl rfl (by decide) (by decide) (by decide) rfl hl.1 rfl (Nat.le_of_ble_eq_true rfl) dX7_shareOne_34 ⟨Nat.le_of_ble_eq_true rfl, Nat.le_of_ble_eq_true rfl⟩ (fun H locs hP hD hS => ?_)
    have hP : va_P D vwCl [(h0_entryKind, .inl (cI, 24, .inl f0_entryKind)), (h0_entryValue, .inl (cI, 24, .inl f0_entryValue)), (h0_entryX, .inl (cI, 24, .inl f0_entryX)), (h0_entryY, .inl (cI, 24, .inl f0_entryY)), (h1, .inr (5, [.ref h1_kind, .ref h1_d, .ref h1_a, .ref h1_b, .int v1_count])), (h1_a, .inl (cI, L1, .inl f1_a)), (h1_b, .inl (cI, L1, .inl f1_b)), (h1_d, .inl (cI, L1, .inl f1_d)), (h1_kind, .inl (cI, L1, .inl f1_kind)), (h0, .inr (6, [.ref h0_held, .ref h0_entryKind, .ref h0_entryX, .ref h0_entryY, .ref h0_entryValue, .int v0_entries, .int v0_nextValue])), (h0_held, .inl (cI, 8, .inl f0_held))] H := hP
    have hD : va_D A [(h0_entryKind, .inl (cI, 24, .inl f0_entryKind)), (h0_entryValue, .inl (cI, 24, .inl f0_entryValue)), (h0_entryX, .inl (cI, 24, .inl f0_entryX)), (h0_entryY, .inl (cI, 24, .inl f0_entryY)), (h1, .inr (5, [.ref h1_kind, .ref h1_d, .ref h1_a, .ref h1_b, .int v1_count])), (h1_a, .inl (cI, L1, .inl f1_a)), (h1_b, .inl (cI, L1, .inl f1_b)), (h1_d, .inl (cI, L1, .inl f1_d)), (h1_kind, .inl (cI, L1, .inl f1_kind)), (h0, .inr (6, [.ref h0_held, .ref h0_entryKind, .ref h0_entryX, .ref h0_entryY, .ref h0_entryValue, .int v0_entries, .int v0_nextValue])), (h0_held, .inl (cI, 8, .inl f0_held))] := hD
    refine lv_goto (tgt := 46) hx hb dX7_shareOne_37 (by decide) ?_
    exact hJ_46 _ _ _ _ _ _ _ _ _ _ _ _ _ _ _ _ _ ls hf (hP.sub [9, 0, 1, 2, 3, 10, 4, 5, 6, 7, 8] rfl) (hD.sub [9, 0, 1, 2, 3, 10, 4, 5, 6, 7, 8] (by decide) rfl) hS (lv_sub hl [2, 3, 4, 1, 0] rfl)

def f_X7_share_25 (n : Nat) (k_4 : (Nat → Int32) → (Nat → Int32) → (Nat → Int32) → (Nat → Int32) → (Nat → Int32) → (Nat → Int32) → (Nat → Int32) → (Nat → Int32) → (Nat → Int32) → Int32 → Int32 → Int32 → Int32 → Option (Int32 × (Nat → Int32) × (Nat → Int32) × (Nat → Int32) × (Nat → Int32) × (Nat → Int32) × (Nat → Int32) × (Nat → Int32) × (Nat → Int32) × (Nat → Int32) × Int32 × Int32)) (L1 : Nat) (f0_entryKind : (Nat → Int32)) (f0_entryValue : (Nat → Int32)) (f0_entryX : (Nat → Int32)) (f0_entryY : (Nat → Int32)) (f0_held : (Nat → Int32)) (f1_a : (Nat → Int32)) (f1_b : (Nat → Int32)) (f1_d : (Nat → Int32)) (f1_kind : (Nat → Int32)) (v0_entries : Int32) (v0_nextValue : Int32) (v1_count : Int32) (x2 x3 : Int32) : Option (Int32 × (Nat → Int32) × (Nat → Int32) × (Nat → Int32) × (Nat → Int32) × (Nat → Int32) × (Nat → Int32) × (Nat → Int32) × (Nat → Int32) × (Nat → Int32) × Int32 × Int32) := (f_X7_shareOne n L1 f0_entryKind f0_entryValue f0_entryX f0_entryY f0_held f1_a f1_b f1_d f1_kind v0_entries v0_nextValue x3).bind (fun u1 => if u1.1 = 0 then (k_4 u1.2.1 u1.2.2.1 u1.2.2.2.1 u1.2.2.2.2.1 u1.2.2.2.2.2.1 u1.2.2.2.2.2.2.1 u1.2.2.2.2.2.2.2.1 u1.2.2.2.2.2.2.2.2.1 u1.2.2.2.2.2.2.2.2.2.1 u1.2.2.2.2.2.2.2.2.2.2.1 u1.2.2.2.2.2.2.2.2.2.2.2 x2 (x3 + (1 : Int32))) else (k_4 u1.2.1 u1.2.2.1 u1.2.2.2.1 u1.2.2.2.2.1 u1.2.2.2.2.2.1 u1.2.2.2.2.2.2.1 u1.2.2.2.2.2.2.2.1 u1.2.2.2.2.2.2.2.2.1 u1.2.2.2.2.2.2.2.2.2.1 u1.2.2.2.2.2.2.2.2.2.2.1 u1.2.2.2.2.2.2.2.2.2.2.2 (x2 + (1 : Int32)) (x3 + (1 : Int32))))
def f_X7_share_4 (n : Nat)  : Nat → Nat → (Nat → Int32) → (Nat → Int32) → (Nat → Int32) → (Nat → Int32) → (Nat → Int32) → (Nat → Int32) → (Nat → Int32) → (Nat → Int32) → (Nat → Int32) → Int32 → Int32 → Int32 → Int32 → Int32 → Option (Int32 × (Nat → Int32) × (Nat → Int32) × (Nat → Int32) × (Nat → Int32) × (Nat → Int32) × (Nat → Int32) × (Nat → Int32) × (Nat → Int32) × (Nat → Int32) × Int32 × Int32)
  | 0, _, _, _, _, _, _, _, _, _, _, _, _, _, _, _ => none
  | k + 1, L1, f0_entryKind, f0_entryValue, f0_entryX, f0_entryY, f0_held, f1_a, f1_b, f1_d, f1_kind, v0_entries, v0_nextValue, v1_count, x2, x3 => if v1_count ≤ x3 then (some (x2, f0_entryKind, f0_entryValue, f0_entryX, f0_entryY, f0_held, f1_a, f1_b, f1_d, f1_kind, v0_entries, v0_nextValue)) else ((f_X7_beginsBlock n L1 f1_d f1_kind v1_count x3).bind (fun u5 => if u5 = 0 then (f_X7_share_25 n (fun f0_entryKind' f0_entryValue' f0_entryX' f0_entryY' f0_held' f1_a' f1_b' f1_d' f1_kind' v0_entries' v0_nextValue' x2' x3' => f_X7_share_4 n k L1 f0_entryKind' f0_entryValue' f0_entryX' f0_entryY' f0_held' f1_a' f1_b' f1_d' f1_kind' v0_entries' v0_nextValue' v1_count x2' x3') L1 f0_entryKind f0_entryValue f0_entryX f0_entryY f0_held f1_a f1_b f1_d f1_kind v0_entries v0_nextValue v1_count x2 x3) else ((f_X7_forgetAll n f0_held v0_entries v0_nextValue).bind (fun u8 => f_X7_share_25 n (fun f0_entryKind' f0_entryValue' f0_entryX' f0_entryY' f0_held' f1_a' f1_b' f1_d' f1_kind' v0_entries' v0_nextValue' x2' x3' => f_X7_share_4 n k L1 f0_entryKind' f0_entryValue' f0_entryX' f0_entryY' f0_held' f1_a' f1_b' f1_d' f1_kind' v0_entries' v0_nextValue' v1_count x2' x3') L1 f0_entryKind f0_entryValue f0_entryX f0_entryY u8.1 f1_a f1_b f1_d f1_kind u8.2.1 u8.2.2 v1_count x2 x3))))
def f_X7_share (n : Nat) (L1 : Nat) (f0_entryKind : (Nat → Int32)) (f0_entryValue : (Nat → Int32)) (f0_entryX : (Nat → Int32)) (f0_entryY : (Nat → Int32)) (f0_held : (Nat → Int32)) (f1_a : (Nat → Int32)) (f1_b : (Nat → Int32)) (f1_d : (Nat → Int32)) (f1_kind : (Nat → Int32)) (v0_entries : Int32) (v0_nextValue : Int32) (v1_count : Int32)  : Option (Int32 × (Nat → Int32) × (Nat → Int32) × (Nat → Int32) × (Nat → Int32) × (Nat → Int32) × (Nat → Int32) × (Nat → Int32) × (Nat → Int32) × (Nat → Int32) × Int32 × Int32) := f_X7_share_4 n n L1 f0_entryKind f0_entryValue f0_entryX f0_entryY f0_held f1_a f1_b f1_d f1_kind v0_entries v0_nextValue v1_count (0 : Int32) (0 : Int32)
theorem iw_X7_share_X6 : ∀ w ∈ wsX60, w ∈ wsX7_share := by decide +kernel
set_option maxHeartbeats 4000000 in
set_option maxRecDepth 100000 in
theorem c_X7_share (l : Launch) (D : va_G) (cI cZ : ClassId) (h0 h1 h0_held h0_entryKind h0_entryX h0_entryY h0_entryValue h1_kind h1_d h1_a h1_b : Nat) (sz : Nat) (L1 : Nat) (f0_entryKind f0_entryValue f0_entryX f0_entryY f0_held f1_a f1_b f1_d f1_kind : Nat → Int32) (v0_entries v0_nextValue v1_count : Int32) (n : Nat)  (res : (Int32 × (Nat → Int32) × (Nat → Int32) × (Nat → Int32) × (Nat → Int32) × (Nat → Int32) × (Nat → Int32) × (Nat → Int32) × (Nat → Int32) × (Nat → Int32) × Int32 × Int32)) (hf : f_X7_share n L1 f0_entryKind f0_entryValue f0_entryX f0_entryY f0_held f1_a f1_b f1_d f1_kind v0_entries v0_nextValue v1_count = some res) : Ct_i l yX7_share wsX7_share ({ frames := 4, cells := 0, slots := 0, locals := 96 }) D [(cI, .int), (cZ, .boolean)] [.ref h0, .ref h1] sz [(h0, .inr (6, [.ref h0_held, .ref h0_entryKind, .ref h0_entryX, .ref h0_entryY, .ref h0_entryValue, .int v0_entries, .int v0_nextValue])), (h0_entryKind, .inl (cI, 24, .inl f0_entryKind)), (h0_entryValue, .inl (cI, 24, .inl f0_entryValue)), (h0_entryX, .inl (cI, 24, .inl f0_entryX)), (h0_entryY, .inl (cI, 24, .inl f0_entryY)), (h0_held, .inl (cI, 8, .inl f0_held)), (h1, .inr (5, [.ref h1_kind, .ref h1_d, .ref h1_a, .ref h1_b, .int v1_count])), (h1_a, .inl (cI, L1, .inl f1_a)), (h1_b, .inl (cI, L1, .inl f1_b)), (h1_d, .inl (cI, L1, .inl f1_d)), (h1_kind, .inl (cI, L1, .inl f1_kind))] res.1 [(h0, .inr (6, [.ref h0_held, .ref h0_entryKind, .ref h0_entryX, .ref h0_entryY, .ref h0_entryValue, .int res.2.2.2.2.2.2.2.2.2.2.1, .int res.2.2.2.2.2.2.2.2.2.2.2])), (h0_entryKind, .inl (cI, 24, .inl res.2.1)), (h0_entryValue, .inl (cI, 24, .inl res.2.2.1)), (h0_entryX, .inl (cI, 24, .inl res.2.2.2.1)), (h0_entryY, .inl (cI, 24, .inl res.2.2.2.2.1)), (h0_held, .inl (cI, 8, .inl res.2.2.2.2.2.1)), (h1, .inr (5, [.ref h1_kind, .ref h1_d, .ref h1_a, .ref h1_b, .int v1_count])), (h1_a, .inl (cI, L1, .inl res.2.2.2.2.2.2.1)), (h1_b, .inl (cI, L1, .inl res.2.2.2.2.2.2.2.1)), (h1_d, .inl (cI, L1, .inl res.2.2.2.2.2.2.2.2.1)), (h1_kind, .inl (cI, L1, .inl res.2.2.2.2.2.2.2.2.2.1))] := by
  refine g_of (cc := cX7_share) (maxL := 4) (ret := some .int) (QQ := (fun A => g_Qi D [(cI, .int), (cZ, .boolean)] A res.1 [(h0, .inr (6, [.ref h0_held, .ref h0_entryKind, .ref h0_entryX, .ref h0_entryY, .ref h0_entryValue, .int res.2.2.2.2.2.2.2.2.2.2.1, .int res.2.2.2.2.2.2.2.2.2.2.2])), (h0_entryKind, .inl (cI, 24, .inl res.2.1)), (h0_entryValue, .inl (cI, 24, .inl res.2.2.1)), (h0_entryX, .inl (cI, 24, .inl res.2.2.2.1)), (h0_entryY, .inl (cI, 24, .inl res.2.2.2.2.1)), (h0_held, .inl (cI, 8, .inl res.2.2.2.2.2.1)), (h1, .inr (5, [.ref h1_kind, .ref h1_d, .ref h1_a, .ref h1_b, .int v1_count])), (h1_a, .inl (cI, L1, .inl res.2.2.2.2.2.2.1)), (h1_b, .inl (cI, L1, .inl res.2.2.2.2.2.2.2.1)), (h1_d, .inl (cI, L1, .inl res.2.2.2.2.2.2.2.2.1)), (h1_kind, .inl (cI, L1, .inl res.2.2.2.2.2.2.2.2.2.1))])) (by decide) rfl (Nat.le_of_ble_eq_true rfl) ?_
  intro p e s m args below meth c A ls S hr hlocks hA hP hK hD hl
  show W p l e ({ frames := 4, cells := 0, slots := 0, locals := 96 }) s m args below meth c s.heap [] 0 0 (MQ below (g_Qi D [(cI, .int), (cZ, .boolean)] A res.1 [(h0, .inr (6, [.ref h0_held, .ref h0_entryKind, .ref h0_entryX, .ref h0_entryY, .ref h0_entryValue, .int res.2.2.2.2.2.2.2.2.2.2.1, .int res.2.2.2.2.2.2.2.2.2.2.2])), (h0_entryKind, .inl (cI, 24, .inl res.2.1)), (h0_entryValue, .inl (cI, 24, .inl res.2.2.1)), (h0_entryX, .inl (cI, 24, .inl res.2.2.2.1)), (h0_entryY, .inl (cI, 24, .inl res.2.2.2.2.1)), (h0_held, .inl (cI, 8, .inl res.2.2.2.2.2.1)), (h1, .inr (5, [.ref h1_kind, .ref h1_d, .ref h1_a, .ref h1_b, .int v1_count])), (h1_a, .inl (cI, L1, .inl res.2.2.2.2.2.2.1)), (h1_b, .inl (cI, L1, .inl res.2.2.2.2.2.2.2.1)), (h1_d, .inl (cI, L1, .inl res.2.2.2.2.2.2.2.2.1)), (h1_kind, .inl (cI, L1, .inl res.2.2.2.2.2.2.2.2.2.1))]) args s 0 0 A) (F0 m 0 ls [])
  have hx := S.1
  have hb := S.2.1
  have hml := S.2.2.1
  have hown := S.2.2.2.1
  have hts := S.2.2.2.2
  have fl_34 := hts (.fieldLink RX7 34 "PassPipeline$Program" "count" "I") (by decide +kernel)
  have hS : va_S A s.heap s.heap [] := va_S.rf
  have hl : lv_has ls 4 [(0, .ref h0), (1, .ref h1)] := hl
  have hJ_4 : ∀ (k : Nat) (f0_entryKind : (Nat → Int32)) (f0_entryValue : (Nat → Int32)) (f0_entryX : (Nat → Int32)) (f0_entryY : (Nat → Int32)) (f0_held : (Nat → Int32)) (f1_a : (Nat → Int32)) (f1_b : (Nat → Int32)) (f1_d : (Nat → Int32)) (f1_kind : (Nat → Int32)) (v0_entries : Int32) (v0_nextValue : Int32) (x2 x3 : Int32) (H : Heap) (locs : List Loc) (ls : Array Slot), f_X7_share_4 n k L1 f0_entryKind f0_entryValue f0_entryX f0_entryY f0_held f1_a f1_b f1_d f1_kind v0_entries v0_nextValue v1_count x2 x3 = some res → va_P D vwCl [(h0, .inr (6, [.ref h0_held, .ref h0_entryKind, .ref h0_entryX, .ref h0_entryY, .ref h0_entryValue, .int v0_entries, .int v0_nextValue])), (h0_entryKind, .inl (cI, 24, .inl f0_entryKind)), (h0_entryValue, .inl (cI, 24, .inl f0_entryValue)), (h0_entryX, .inl (cI, 24, .inl f0_entryX)), (h0_entryY, .inl (cI, 24, .inl f0_entryY)), (h0_held, .inl (cI, 8, .inl f0_held)), (h1, .inr (5, [.ref h1_kind, .ref h1_d, .ref h1_a, .ref h1_b, .int v1_count])), (h1_a, .inl (cI, L1, .inl f1_a)), (h1_b, .inl (cI, L1, .inl f1_b)), (h1_d, .inl (cI, L1, .inl f1_d)), (h1_kind, .inl (cI, L1, .inl f1_kind))] H → va_D A [(h0, .inr (6, [.ref h0_held, .ref h0_entryKind, .ref h0_entryX, .ref h0_entryY, .ref h0_entryValue, .int v0_entries, .int v0_nextValue])), (h0_entryKind, .inl (cI, 24, .inl f0_entryKind)), (h0_entryValue, .inl (cI, 24, .inl f0_entryValue)), (h0_entryX, .inl (cI, 24, .inl f0_entryX)), (h0_entryY, .inl (cI, 24, .inl f0_entryY)), (h0_held, .inl (cI, 8, .inl f0_held)), (h1, .inr (5, [.ref h1_kind, .ref h1_d, .ref h1_a, .ref h1_b, .int v1_count])), (h1_a, .inl (cI, L1, .inl f1_a)), (h1_b, .inl (cI, L1, .inl f1_b)), (h1_d, .inl (cI, L1, .inl f1_d)), (h1_kind, .inl (cI, L1, .inl f1_kind))] → va_S A s.heap H locs → lv_has ls 4 [(0, .ref h0), (1, .ref h1), (2, .int x2), (3, .int x3)] → W p l e ({ frames := 4, cells := 0, slots := 0, locals := 96 }) s m args below meth c H locs 0 0 (MQ below (g_Qi D [(cI, .int), (cZ, .boolean)] A res.1 [(h0, .inr (6, [.ref h0_held, .ref h0_entryKind, .ref h0_entryX, .ref h0_entryY, .ref h0_entryValue, .int res.2.2.2.2.2.2.2.2.2.2.1, .int res.2.2.2.2.2.2.2.2.2.2.2])), (h0_entryKind, .inl (cI, 24, .inl res.2.1)), (h0_entryValue, .inl (cI, 24, .inl res.2.2.1)), (h0_entryX, .inl (cI, 24, .inl res.2.2.2.1)), (h0_entryY, .inl (cI, 24, .inl res.2.2.2.2.1)), (h0_held, .inl (cI, 8, .inl res.2.2.2.2.2.1)), (h1, .inr (5, [.ref h1_kind, .ref h1_d, .ref h1_a, .ref h1_b, .int v1_count])), (h1_a, .inl (cI, L1, .inl res.2.2.2.2.2.2.1)), (h1_b, .inl (cI, L1, .inl res.2.2.2.2.2.2.2.1)), (h1_d, .inl (cI, L1, .inl res.2.2.2.2.2.2.2.2.1)), (h1_kind, .inl (cI, L1, .inl res.2.2.2.2.2.2.2.2.2.1))]) args s 0 0 A) (F0 m 4 ls []) := by
    intro k
    induction k with
    | zero => intro f0_entryKind f0_entryValue f0_entryX f0_entryY f0_held f1_a f1_b f1_d f1_kind v0_entries v0_nextValue x2 x3 H locs ls hf; rw [f_X7_share_4] at hf; cases hf
    | succ m_4 ih =>
      have ih_4 : ∀ (f0_entryKind : (Nat → Int32)) (f0_entryValue : (Nat → Int32)) (f0_entryX : (Nat → Int32)) (f0_entryY : (Nat → Int32)) (f0_held : (Nat → Int32)) (f1_a : (Nat → Int32)) (f1_b : (Nat → Int32)) (f1_d : (Nat → Int32)) (f1_kind : (Nat → Int32)) (v0_entries : Int32) (v0_nextValue : Int32) (x2 x3 : Int32) (H : Heap) (locs : List Loc) (ls : Array Slot), (fun f0_entryKind' f0_entryValue' f0_entryX' f0_entryY' f0_held' f1_a' f1_b' f1_d' f1_kind' v0_entries' v0_nextValue' x2' x3' => f_X7_share_4 n m_4 L1 f0_entryKind' f0_entryValue' f0_entryX' f0_entryY' f0_held' f1_a' f1_b' f1_d' f1_kind' v0_entries' v0_nextValue' v1_count x2' x3') f0_entryKind f0_entryValue f0_entryX f0_entryY f0_held f1_a f1_b f1_d f1_kind v0_entries v0_nextValue x2 x3 = some res → va_P D vwCl [(h0, .inr (6, [.ref h0_held, .ref h0_entryKind, .ref h0_entryX, .ref h0_entryY, .ref h0_entryValue, .int v0_entries, .int v0_nextValue])), (h0_entryKind, .inl (cI, 24, .inl f0_entryKind)), (h0_entryValue, .inl (cI, 24, .inl f0_entryValue)), (h0_entryX, .inl (cI, 24, .inl f0_entryX)), (h0_entryY, .inl (cI, 24, .inl f0_entryY)), (h0_held, .inl (cI, 8, .inl f0_held)), (h1, .inr (5, [.ref h1_kind, .ref h1_d, .ref h1_a, .ref h1_b, .int v1_count])), (h1_a, .inl (cI, L1, .inl f1_a)), (h1_b, .inl (cI, L1, .inl f1_b)), (h1_d, .inl (cI, L1, .inl f1_d)), (h1_kind, .inl (cI, L1, .inl f1_kind))] H → va_D A [(h0, .inr (6, [.ref h0_held, .ref h0_entryKind, .ref h0_entryX, .ref h0_entryY, .ref h0_entryValue, .int v0_entries, .int v0_nextValue])), (h0_entryKind, .inl (cI, 24, .inl f0_entryKind)), (h0_entryValue, .inl (cI, 24, .inl f0_entryValue)), (h0_entryX, .inl (cI, 24, .inl f0_entryX)), (h0_entryY, .inl (cI, 24, .inl f0_entryY)), (h0_held, .inl (cI, 8, .inl f0_held)), (h1, .inr (5, [.ref h1_kind, .ref h1_d, .ref h1_a, .ref h1_b, .int v1_count])), (h1_a, .inl (cI, L1, .inl f1_a)), (h1_b, .inl (cI, L1, .inl f1_b)), (h1_d, .inl (cI, L1, .inl f1_d)), (h1_kind, .inl (cI, L1, .inl f1_kind))] → va_S A s.heap H locs → lv_has ls 4 [(0, .ref h0), (1, .ref h1), (2, .int x2), (3, .int x3)] → W p l e ({ frames := 4, cells := 0, slots := 0, locals := 96 }) s m args below meth c H locs 0 0 (MQ below (g_Qi D [(cI, .int), (cZ, .boolean)] A res.1 [(h0, .inr (6, [.ref h0_held, .ref h0_entryKind, .ref h0_entryX, .ref h0_entryY, .ref h0_entryValue, .int res.2.2.2.2.2.2.2.2.2.2.1, .int res.2.2.2.2.2.2.2.2.2.2.2])), (h0_entryKind, .inl (cI, 24, .inl res.2.1)), (h0_entryValue, .inl (cI, 24, .inl res.2.2.1)), (h0_entryX, .inl (cI, 24, .inl res.2.2.2.1)), (h0_entryY, .inl (cI, 24, .inl res.2.2.2.2.1)), (h0_held, .inl (cI, 8, .inl res.2.2.2.2.2.1)), (h1, .inr (5, [.ref h1_kind, .ref h1_d, .ref h1_a, .ref h1_b, .int v1_count])), (h1_a, .inl (cI, L1, .inl res.2.2.2.2.2.2.1)), (h1_b, .inl (cI, L1, .inl res.2.2.2.2.2.2.2.1)), (h1_d, .inl (cI, L1, .inl res.2.2.2.2.2.2.2.2.1)), (h1_kind, .inl (cI, L1, .inl res.2.2.2.2.2.2.2.2.2.1))]) args s 0 0 A) (F0 m 4 ls []) := ih
      have hJ_25 : ∀ (f0_entryKind : (Nat → Int32)) (f0_entryValue : (Nat → Int32)) (f0_entryX : (Nat → Int32)) (f0_entryY : (Nat → Int32)) (f0_held : (Nat → Int32)) (f1_a : (Nat → Int32)) (f1_b : (Nat → Int32)) (f1_d : (Nat → Int32)) (f1_kind : (Nat → Int32)) (v0_entries : Int32) (v0_nextValue : Int32) (x2 x3 : Int32) (H : Heap) (locs : List Loc) (ls : Array Slot), f_X7_share_25 n (fun f0_entryKind' f0_entryValue' f0_entryX' f0_entryY' f0_held' f1_a' f1_b' f1_d' f1_kind' v0_entries' v0_nextValue' x2' x3' => f_X7_share_4 n m_4 L1 f0_entryKind' f0_entryValue' f0_entryX' f0_entryY' f0_held' f1_a' f1_b' f1_d' f1_kind' v0_entries' v0_nextValue' v1_count x2' x3') L1 f0_entryKind f0_entryValue f0_entryX f0_entryY f0_held f1_a f1_b f1_d f1_kind v0_entries v0_nextValue v1_count x2 x3 = some res → va_P D vwCl [(h0, .inr (6, [.ref h0_held, .ref h0_entryKind, .ref h0_entryX, .ref h0_entryY, .ref h0_entryValue, .int v0_entries, .int v0_nextValue])), (h0_entryKind, .inl (cI, 24, .inl f0_entryKind)), (h0_entryValue, .inl (cI, 24, .inl f0_entryValue)), (h0_entryX, .inl (cI, 24, .inl f0_entryX)), (h0_entryY, .inl (cI, 24, .inl f0_entryY)), (h0_held, .inl (cI, 8, .inl f0_held)), (h1, .inr (5, [.ref h1_kind, .ref h1_d, .ref h1_a, .ref h1_b, .int v1_count])), (h1_a, .inl (cI, L1, .inl f1_a)), (h1_b, .inl (cI, L1, .inl f1_b)), (h1_d, .inl (cI, L1, .inl f1_d)), (h1_kind, .inl (cI, L1, .inl f1_kind))] H → va_D A [(h0, .inr (6, [.ref h0_held, .ref h0_entryKind, .ref h0_entryX, .ref h0_entryY, .ref h0_entryValue, .int v0_entries, .int v0_nextValue])), (h0_entryKind, .inl (cI, 24, .inl f0_entryKind)), (h0_entryValue, .inl (cI, 24, .inl f0_entryValue)), (h0_entryX, .inl (cI, 24, .inl f0_entryX)), (h0_entryY, .inl (cI, 24, .inl f0_entryY)), (h0_held, .inl (cI, 8, .inl f0_held)), (h1, .inr (5, [.ref h1_kind, .ref h1_d, .ref h1_a, .ref h1_b, .int v1_count])), (h1_a, .inl (cI, L1, .inl f1_a)), (h1_b, .inl (cI, L1, .inl f1_b)), (h1_d, .inl (cI, L1, .inl f1_d)), (h1_kind, .inl (cI, L1, .inl f1_kind))] → va_S A s.heap H locs → lv_has ls 4 [(0, .ref h0), (1, .ref h1), (2, .int x2), (3, .int x3)] → W p l e ({ frames := 4, cells := 0, slots := 0, locals := 96 }) s m args below meth c H locs 0 0 (MQ below (g_Qi D [(cI, .int), (cZ, .boolean)] A res.1 [(h0, .inr (6, [.ref h0_held, .ref h0_entryKind, .ref h0_entryX, .ref h0_entryY, .ref h0_entryValue, .int res.2.2.2.2.2.2.2.2.2.2.1, .int res.2.2.2.2.2.2.2.2.2.2.2])), (h0_entryKind, .inl (cI, 24, .inl res.2.1)), (h0_entryValue, .inl (cI, 24, .inl res.2.2.1)), (h0_entryX, .inl (cI, 24, .inl res.2.2.2.1)), (h0_entryY, .inl (cI, 24, .inl res.2.2.2.2.1)), (h0_held, .inl (cI, 8, .inl res.2.2.2.2.2.1)), (h1, .inr (5, [.ref h1_kind, .ref h1_d, .ref h1_a, .ref h1_b, .int v1_count])), (h1_a, .inl (cI, L1, .inl res.2.2.2.2.2.2.1)), (h1_b, .inl (cI, L1, .inl res.2.2.2.2.2.2.2.1)), (h1_d, .inl (cI, L1, .inl res.2.2.2.2.2.2.2.2.1)), (h1_kind, .inl (cI, L1, .inl res.2.2.2.2.2.2.2.2.2.1))]) args s 0 0 A) (F0 m 25 ls []) := by
        intro f0_entryKind f0_entryValue f0_entryX f0_entryY f0_held f1_a f1_b f1_d f1_kind v0_entries v0_nextValue x2 x3 H locs ls hf hP hD hS hl
        unfold f_X7_share_25 at hf
        refine lv_aload_n hx hb dX7_share_25 rfl (lv_at hl 0 rfl) ?_
        refine lv_aload_n hx hb dX7_share_26 rfl (lv_at hl 1 rfl) ?_
        refine lv_iload_n hx hb dX7_share_27 rfl (lv_at hl 3 rfl) ?_
        obtain ⟨u1, g2, hf⟩ := bd_some hf
        refine g_callVi S (c_X7_shareOne l D cI cZ h0 h1 h0_held h0_entryKind h0_entryX h0_entryY h0_entryValue h1_kind h1_d h1_a h1_b _ L1 f0_entryKind f0_entryValue f0_entryX f0_entryY f0_held f1_a f1_b f1_d f1_kind v0_entries v0_nextValue v1_count n x3 u1 g2) (cwV 2 hts gX7_share_X7_shareOne rfl rfl rfl (by decide +kernel) ⟨Nat.le_of_ble_eq_true rfl, Nat.le_of_ble_eq_true rfl⟩) hK hP hD hS hA 0 (ci := 6) rfl rfl [0, 1, 2, 3, 4, 5, 6, 7, 8, 9, 10] [] [] rfl rfl (by decide) (by decide) (by decide) rfl hl.1 rfl (Nat.le_of_ble_eq_true rfl) dX7_share_28 ⟨Nat.le_of_ble_eq_true rfl, Nat.le_of_ble_eq_true rfl⟩ (fun H locs hP hD hS => ?_)
        have hP : va_P D vwCl [(h0, .inr (6, [.ref h0_held, .ref h0_entryKind, .ref h0_entryX, .ref h0_entryY, .ref h0_entryValue, .int u1.2.2.2.2.2.2.2.2.2.2.1, .int u1.2.2.2.2.2.2.2.2.2.2.2])), (h0_entryKind, .inl (cI, 24, .inl u1.2.1)), (h0_entryValue, .inl (cI, 24, .inl u1.2.2.1)), (h0_entryX, .inl (cI, 24, .inl u1.2.2.2.1)), (h0_entryY, .inl (cI, 24, .inl u1.2.2.2.2.1)), (h0_held, .inl (cI, 8, .inl u1.2.2.2.2.2.1)), (h1, .inr (5, [.ref h1_kind, .ref h1_d, .ref h1_a, .ref h1_b, .int v1_count])), (h1_a, .inl (cI, L1, .inl u1.2.2.2.2.2.2.1)), (h1_b, .inl (cI, L1, .inl u1.2.2.2.2.2.2.2.1)), (h1_d, .inl (cI, L1, .inl u1.2.2.2.2.2.2.2.2.1)), (h1_kind, .inl (cI, L1, .inl u1.2.2.2.2.2.2.2.2.2.1))] H := hP
        have hD : va_D A [(h0, .inr (6, [.ref h0_held, .ref h0_entryKind, .ref h0_entryX, .ref h0_entryY, .ref h0_entryValue, .int u1.2.2.2.2.2.2.2.2.2.2.1, .int u1.2.2.2.2.2.2.2.2.2.2.2])), (h0_entryKind, .inl (cI, 24, .inl u1.2.1)), (h0_entryValue, .inl (cI, 24, .inl u1.2.2.1)), (h0_entryX, .inl (cI, 24, .inl u1.2.2.2.1)), (h0_entryY, .inl (cI, 24, .inl u1.2.2.2.2.1)), (h0_held, .inl (cI, 8, .inl u1.2.2.2.2.2.1)), (h1, .inr (5, [.ref h1_kind, .ref h1_d, .ref h1_a, .ref h1_b, .int v1_count])), (h1_a, .inl (cI, L1, .inl u1.2.2.2.2.2.2.1)), (h1_b, .inl (cI, L1, .inl u1.2.2.2.2.2.2.2.1)), (h1_d, .inl (cI, L1, .inl u1.2.2.2.2.2.2.2.2.1)), (h1_kind, .inl (cI, L1, .inl u1.2.2.2.2.2.2.2.2.2.1))] := hD
        refine lv_if_eq (tgt := 37) hx hb dX7_share_31 (by decide) (fun c3 => ?_) (fun c3 => ?_)
        · have hf := ite_t hf c3
          refine lv_iinc (v := (x3 + (1 : Int32))) (lv' := [(3, .int (x3 + (1 : Int32))), (0, .ref h0), (1, .ref h1), (2, .int x2)]) hx hb dX7_share_37 hl (k := 3) rfl rfl (by decide) rfl (fun ls hl => ?_)
          refine lv_goto (tgt := 4) hx hb dX7_share_40 (by decide) ?_
          exact ih_4 _ _ _ _ _ _ _ _ _ _ _ _ _ _ _ ls hf (hP.sub [0, 1, 2, 3, 4, 5, 6, 7, 8, 9, 10] rfl) (hD.sub [0, 1, 2, 3, 4, 5, 6, 7, 8, 9, 10] (by decide) rfl) hS (lv_sub hl [1, 2, 3, 0] rfl)
        · have hf := ite_e hf c3
          refine lv_iinc (v := (x2 + (1 : Int32))) (lv' := [(2, .int (x2 + (1 : Int32))), (0, .ref h0), (1, .ref h1), (3, .int x3)]) hx hb dX7_share_34 hl (k := 2) rfl rfl (by decide) rfl (fun ls hl => ?_)
          refine lv_iinc (v := (x3 + (1 : Int32))) (lv' := [(3, .int (x3 + (1 : Int32))), (2, .int (x2 + (1 : Int32))), (0, .ref h0), (1, .ref h1)]) hx hb dX7_share_37 hl (k := 3) rfl rfl (by decide) rfl (fun ls hl => ?_)
          refine lv_goto (tgt := 4) hx hb dX7_share_40 (by decide) ?_
          exact ih_4 _ _ _ _ _ _ _ _ _ _ _ _ _ _ _ ls hf (hP.sub [0, 1, 2, 3, 4, 5, 6, 7, 8, 9, 10] rfl) (hD.sub [0, 1, 2, 3, 4, 5, 6, 7, 8, 9, 10] (by decide) rfl) hS (lv_sub hl [2, 3, 1, 0] rfl)
      intro f0_entryKind f0_entryValue f0_entryX f0_entryY f0_held f1_a f1_b f1_d f1_kind v0_entries v0_nextValue x2 x3 H locs ls hf hP hD hS hl
      rw [f_X7_share_4] at hf
      refine lv_iload_n hx hb dX7_share_4 rfl (lv_at hl 3 rfl) ?_
      refine lv_aload_n hx hb dX7_share_5 rfl (lv_at hl 1 rfl) ?_
      refine va_get (D := D) (ci := 5) (v := .int v1_count) (C := RX6) (T := TX6) (N := 5) hx hb hts iw_X7_share_X6 hown hK hP 6 rfl rfl 4 (by decide) fl_34 (fun _ h9 => h9) rfl dX7_share_6 ?_
      refine lv_icmp_ge (tgt := 43) hx hb dX7_share_9 (by decide) (fun c4 => ?_) (fun c4 => ?_)
      · have hf := ite_t hf c4
        refine lv_iload_n hx hb dX7_share_43 rfl (lv_at hl 2 rfl) ?_
        have hf := Option.some.inj hf
        subst hf
        exact g_iret hx hb hr hlocks (hP.sub [0, 1, 2, 3, 4, 5, 6, 7, 8, 9, 10] rfl) (hD.sub [0, 1, 2, 3, 4, 5, 6, 7, 8, 9, 10] (by decide) rfl) hK hS rfl dX7_share_44
      · have hf := ite_e hf c4
        refine lv_aload_n hx hb dX7_share_12 rfl (lv_at hl 0 rfl) ?_
        refine lv_aload_n hx hb dX7_share_13 rfl (lv_at hl 1 rfl) ?_
        refine lv_iload_n hx hb dX7_share_14 rfl (lv_at hl 3 rfl) ?_
        obtain ⟨u5, g6, hf⟩ := bd_some hf
        refine g_callVi S (c_X7_beginsBlock l D cI cZ h0 h1 h1_kind h1_d h1_a h1_b _ L1 f1_d f1_kind v1_count n x3 u5 g6) (cwV 2 hts gX7_share_X7_beginsBlock rfl rfl rfl (by decide +kernel) ⟨Nat.le_of_ble_eq_true rfl, Nat.le_of_ble_eq_true rfl⟩) hK hP hD hS hA 0 (ci := 6) rfl rfl [6, 9, 10] [0, 1, 2, 3, 4, 5, 7, 8] [(h0, .inr (6, [.ref h0_held, .ref h0_entryKind, .ref h0_entryX, .ref h0_entryY, .ref h0_entryValue, .int v0_entries, .int v0_nextValue])), (h0_entryKind, .inl (cI, 24, .inl f0_entryKind)), (h0_entryValue, .inl (cI, 24, .inl f0_entryValue)), (h0_entryX, .inl (cI, 24, .inl f0_entryX)), (h0_entryY, .inl (cI, 24, .inl f0_entryY)), (h0_held, .inl (cI, 8, .inl f0_held)), (h1_a, .inl (cI, L1, .inl f1_a)), (h1_b, .inl (cI, L1, .inl f1_b))] rfl rfl (by decide) (by decide) (by decide) rfl hl.1 rfl (Nat.le_of_ble_eq_true rfl) dX7_share_15 ⟨Nat.le_of_ble_eq_true rfl, Nat.le_of_ble_eq_true rfl⟩ (fun H locs hP hD hS => ?_)
        have hP : va_P D vwCl [(h0, .inr (6, [.ref h0_held, .ref h0_entryKind, .ref h0_entryX, .ref h0_entryY, .ref h0_entryValue, .int v0_entries, .int v0_nextValue])), (h0_entryKind, .inl (cI, 24, .inl f0_entryKind)), (h0_entryValue, .inl (cI, 24, .inl f0_entryValue)), (h0_entryX, .inl (cI, 24, .inl f0_entryX)), (h0_entryY, .inl (cI, 24, .inl f0_entryY)), (h0_held, .inl (cI, 8, .inl f0_held)), (h1_a, .inl (cI, L1, .inl f1_a)), (h1_b, .inl (cI, L1, .inl f1_b)), (h1, .inr (5, [.ref h1_kind, .ref h1_d, .ref h1_a, .ref h1_b, .int v1_count])), (h1_d, .inl (cI, L1, .inl f1_d)), (h1_kind, .inl (cI, L1, .inl f1_kind))] H := hP
        have hD : va_D A [(h0, .inr (6, [.ref h0_held, .ref h0_entryKind, .ref h0_entryX, .ref h0_entryY, .ref h0_entryValue, .int v0_entries, .int v0_nextValue])), (h0_entryKind, .inl (cI, 24, .inl f0_entryKind)), (h0_entryValue, .inl (cI, 24, .inl f0_entryValue)), (h0_entryX, .inl (cI, 24, .inl f0_entryX)), (h0_entryY, .inl (cI, 24, .inl f0_entryY)), (h0_held, .inl (cI, 8, .inl f0_held)), (h1_a, .inl (cI, L1, .inl f1_a)), (h1_b, .inl (cI, L1, .inl f1_b)), (h1, .inr (5, [.ref h1_kind, .ref h1_d, .ref h1_a, .ref h1_b, .int v1_count])), (h1_d, .inl (cI, L1, .inl f1_d)), (h1_kind, .inl (cI, L1, .inl f1_kind))] := hD
        refine lv_if_eq (tgt := 25) hx hb dX7_share_18 (by decide) (fun c7 => ?_) (fun c7 => ?_)
        · have hf := ite_t hf c7
          exact hJ_25 _ _ _ _ _ _ _ _ _ _ _ _ _ _ _ ls hf (hP.sub [0, 1, 2, 3, 4, 5, 8, 6, 7, 9, 10] rfl) (hD.sub [0, 1, 2, 3, 4, 5, 8, 6, 7, 9, 10] (by decide) rfl) hS (lv_sub hl [0, 1, 2, 3] rfl)
        · have hf := ite_e hf c7
          refine lv_aload_n hx hb dX7_share_21 rfl (lv_at hl 0 rfl) ?_
          obtain ⟨u8, g9, hf⟩ := bd_some hf
          refine g_callVv S (c_X7_forgetAll l D cI cZ h0 h0_held h0_entryKind h0_entryX h0_entryY h0_entryValue _ f0_held v0_entries v0_nextValue n u8 g9) (cwV 0 hts gX7_share_X7_forgetAll rfl rfl rfl (by decide +kernel) ⟨Nat.le_of_ble_eq_true rfl, Nat.le_of_ble_eq_true rfl⟩) hK hP hD hS hA 0 (ci := 6) rfl rfl [0, 5] [1, 2, 3, 4, 6, 7, 8, 9, 10] [(h0_entryKind, .inl (cI, 24, .inl f0_entryKind)), (h0_entryValue, .inl (cI, 24, .inl f0_entryValue)), (h0_entryX, .inl (cI, 24, .inl f0_entryX)), (h0_entryY, .inl (cI, 24, .inl f0_entryY)), (h1_a, .inl (cI, L1, .inl f1_a)), (h1_b, .inl (cI, L1, .inl f1_b)), (h1, .inr (5, [.ref h1_kind, .ref h1_d, .ref h1_a, .ref h1_b, .int v1_count])), (h1_d, .inl (cI, L1, .inl f1_d)), (h1_kind, .inl (cI, L1, .inl f1_kind))] rfl rfl (by decide) (by decide) (by decide) rfl hl.1 rfl (Nat.le_of_ble_eq_true rfl) dX7_share_22 ⟨Nat.le_of_ble_eq_true rfl, Nat.le_of_ble_eq_true rfl⟩ (fun H locs hP hD hS => ?_)
          have hP : va_P D vwCl [(h0_entryKind, .inl (cI, 24, .inl f0_entryKind)), (h0_entryValue, .inl (cI, 24, .inl f0_entryValue)), (h0_entryX, .inl (cI, 24, .inl f0_entryX)), (h0_entryY, .inl (cI, 24, .inl f0_entryY)), (h1_a, .inl (cI, L1, .inl f1_a)), (h1_b, .inl (cI, L1, .inl f1_b)), (h1, .inr (5, [.ref h1_kind, .ref h1_d, .ref h1_a, .ref h1_b, .int v1_count])), (h1_d, .inl (cI, L1, .inl f1_d)), (h1_kind, .inl (cI, L1, .inl f1_kind)), (h0, .inr (6, [.ref h0_held, .ref h0_entryKind, .ref h0_entryX, .ref h0_entryY, .ref h0_entryValue, .int u8.2.1, .int u8.2.2])), (h0_held, .inl (cI, 8, .inl u8.1))] H := hP
          have hD : va_D A [(h0_entryKind, .inl (cI, 24, .inl f0_entryKind)), (h0_entryValue, .inl (cI, 24, .inl f0_entryValue)), (h0_entryX, .inl (cI, 24, .inl f0_entryX)), (h0_entryY, .inl (cI, 24, .inl f0_entryY)), (h1_a, .inl (cI, L1, .inl f1_a)), (h1_b, .inl (cI, L1, .inl f1_b)), (h1, .inr (5, [.ref h1_kind, .ref h1_d, .ref h1_a, .ref h1_b, .int v1_count])), (h1_d, .inl (cI, L1, .inl f1_d)), (h1_kind, .inl (cI, L1, .inl f1_kind)), (h0, .inr (6, [.ref h0_held, .ref h0_entryKind, .ref h0_entryX, .ref h0_entryY, .ref h0_entryValue, .int u8.2.1, .int u8.2.2])), (h0_held, .inl (cI, 8, .inl u8.1))] := hD
          exact hJ_25 _ _ _ _ _ _ _ _ _ _ _ _ _ _ _ ls hf (hP.sub [9, 0, 1, 2, 3, 10, 6, 4, 5, 7, 8] rfl) (hD.sub [9, 0, 1, 2, 3, 10, 6, 4, 5, 7, 8] (by decide) rfl) hS (lv_sub hl [0, 1, 2, 3] rfl)
  unfold f_X7_share at hf
  refine lv_iconst (v := (0 : Int32)) hx hb dX7_share_0 (by decide) ?_
  refine lv_istore_n (lv' := [(2, .int (0 : Int32)), (0, .ref h0), (1, .ref h1)]) hx hb dX7_share_1 rfl hl (by decide) rfl (fun ls hl => ?_)
  refine lv_iconst (v := (0 : Int32)) hx hb dX7_share_2 (by decide) ?_
  refine lv_istore_n (lv' := [(3, .int (0 : Int32)), (2, .int (0 : Int32)), (0, .ref h0), (1, .ref h1)]) hx hb dX7_share_3 rfl hl (by decide) rfl (fun ls hl => ?_)
  exact hJ_4 n _ _ _ _ _ _ _ _ _ _ _ _ _ _ _ ls hf (hP.sub [0, 1, 2, 3, 4, 5, 6, 7, 8, 9, 10] rfl) (hD.sub [0, 1, 2, 3, 4, 5, 6, 7, 8, 9, 10] (by decide) rfl) hS (lv_sub hl [2, 3, 1, 0] rfl)
