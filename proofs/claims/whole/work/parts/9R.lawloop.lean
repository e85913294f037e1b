/-! THE LAW: its loop. -/
theorem lw_and15 (x : Int32) : ∃ j : Nat, j ≤ 15 ∧ x &&& 15 = nI j := by
  refine ⟨(x &&& 15).toBitVec.toNat, ?_, ?_⟩
  · rw [Int32.toBitVec_and, BitVec.toNat_and]
    exact Nat.and_le_right
  · apply Int32.toBitVec_inj.mp
    show (x &&& 15).toBitVec = (Int32.ofNat (x &&& 15).toBitVec.toNat).toBitVec
    rw [Int32.toBitVec_ofNat', BitVec.ofNat_toNat, BitVec.setWidth_eq]
theorem lw_more {L i : Nat} (hL : L ≤ 2560) (hi : i < 2 ^ 31) (h : ¬ (Int32.ofNat L - 5 < nI i)) : i + 5 ≤ L := by
  by_cases h5 : 5 ≤ L
  · have e : Int32.ofNat L - 5 = nI (L - 5) := by
      have h1 := nI_add (L - 5) 5
      rw [Nat.sub_add_cancel h5] at h1
      show nI L - nI 5 = nI (L - 5)
      rw [← h1]
      exact Int32.add_sub_cancel _ _
    rw [e] at h
    rcases Nat.lt_or_ge (L - 5) i with q | q
    · exact absurd (nI_lt q hi) h
    · omega
  · exfalso
    have hn : Int32.ofNat L - 5 < 0 := by
      rcases (show L = 0 ∨ L = 1 ∨ L = 2 ∨ L = 3 ∨ L = 4 by omega) with rfl | rfl | rfl | rfl | rfl <;> decide
    exact h (Int32.lt_of_lt_of_le hn (nI_pos' hi))
set_option maxHeartbeats 4000000 in
set_option maxRecDepth 100000 in
/-- the law's loop: at its head, with j turns done -/
theorem law_loop {p : Program} {l : Launch} {e : Env} {s : State} {m : MethodId} {below : List Frame} {meth : Method} {c : Code} {D : va_G} {cI cZ cJ : ClassId} {h : Nat → Nat} {b L : Nat} {xs : Nat → Int32} (F : lwF p l s m c D cI cZ cJ b L xs) (hr : meth.sig.returnType = ret) (hlocks : meth.locks = false) (hL : L ≤ 2560) :
    ∀ (k j : Nat) (x4 : Int32) (H : Heap) (locs : List Loc) (ls : Array Slot), 513 ≤ j + k → j ≤ 512 → x4 = nI (5 * j) → lwI s D cI cZ cJ h b x4 H locs ls → W p l e room_1 s m #[Value.ref b] below meth c H locs (71 + j) (4263 + 6 * j) (lw_Z below #[Value.ref b] s) (F0 m 23 ls []) := by
  have F0' := F
  obtain ⟨S, hK, TR, hN, hX, hbl, hlt⟩ := F
  have hx := S.1
  have hb := S.2.1
  have hbA : ¬ lwA s b := Nat.not_le.mpr hbl
  intro k
  induction k with
  | zero =>
    intro j x4 H locs ls h1 h2
    exact absurd h1 (by omega)
  | succ k ih =>
    intro j x4 H locs ls hjk hj ex I
    obtain ⟨hS, hl, hre⟩ := lwI_step I
    refine lv_iload hx hb dL_law_23 (lv_at hl 4 rfl) ?_
    refine lv_aload_n hx hb dL_law_25 rfl (lv_at hl 0 rfl) ?_
    refine va_slen hx hb hX hbl hbA hS dL_law_26 ?_
    refine lv_iconst (v := (5 : Int32)) hx hb dL_law_27 (by decide) ?_
    refine lv_isub hx hb dL_law_28 ?_
    refine lv_icmp_gt (tgt := 892) hx hb dL_law_29 (by decide) (fun q => ?_) (fun q => ?_)
    · refine lv_iconst (v := (1 : Int32)) hx hb dL_law_892 (by decide) ?_
      refine va_forget (fun q hq => hS.2.2 q hq) ?_
      refine W.widen (k := 601024) (n := 7293034) (by omega) (by omega) ?_
      exact lw_ret hx hb hr hlocks dL_law_893
    · have hle : 5 * j + 5 ≤ L := lw_more hL (by omega) (by rw [ex] at q; exact q)
      have h0 : vp_in x4 L := by rw [ex]; exact vp_in_nI (by omega) (by omega)
      have h1 : vp_in (x4 + 1) L := by rw [ex, show nI (5 * j) + 1 = nI (5 * j + 1) from nI_add (5 * j) 1]; exact vp_in_nI (by omega) (by omega)
      have h2 : vp_in (x4 + 2) L := by rw [ex, show nI (5 * j) + 2 = nI (5 * j + 2) from nI_add (5 * j) 2]; exact vp_in_nI (by omega) (by omega)
      have h3 : vp_in (x4 + 3) L := by rw [ex, show nI (5 * j) + 3 = nI (5 * j + 3) from nI_add (5 * j) 3]; exact vp_in_nI (by omega) (by omega)
      have h4 : vp_in (x4 + 4) L := by rw [ex, show nI (5 * j) + 4 = nI (5 * j + 4) from nI_add (5 * j) 4]; exact vp_in_nI (by omega) (by omega)
      have hcr : 71 + j + 1 ≤ 601024 ∧ 4263 + 6 * j + 6 ≤ 7293034 := ⟨by omega, by omega⟩
      have kk : ∀ (H1 : Heap) (locs1 : List Loc) (ls1 : Array Slot), lwI s D cI cZ cJ h b x4 H1 locs1 ls1 → W p l e room_1 s m #[Value.ref b] below meth c H1 locs1 (71 + j + 1) (4263 + 6 * j + 6) (lw_Z below #[Value.ref b] s) (F0 m 886 ls1 []) := by
        intro H1 locs1 ls1 I1
        obtain ⟨hS, hl, hre⟩ := lwI_step I1
        refine lv_iinc (v := nI (5 * (j + 1))) (lv' := [(4, .int (nI (5 * (j + 1)))), (0, .ref b), (1, .ref (h 0)), (2, .ref (h 47)), (3, .ref (h 70))]) hx hb dL_law_886 hl (k := 4) rfl (by rw [ex]; exact nI_add (5 * j) 5) (by decide) rfl (fun ls2 hl2 => ?_)
        refine lv_goto (tgt := 23) hx hb dL_law_889 (by decide) ?_
        exact ih (j + 1) (nI (5 * (j + 1))) H1 locs1 ls2 (by omega) (by omega) rfl (hre _ _ (lv_sub hl2 [1, 2, 3, 4, 0] rfl))
      have hz : ∃ z : Int32, ((xs (x4 + 1).toNatClampNeg) = 0 ∧ z = 0) ∨ (¬ (xs (x4 + 1).toNatClampNeg) = 0 ∧ z = 1) := by
        by_cases q : xs (x4 + 1).toNatClampNeg = 0
        · exact ⟨0, Or.inl ⟨q, rfl⟩⟩
        · exact ⟨1, Or.inr ⟨q, rfl⟩⟩
      obtain ⟨z, hz⟩ := hz
      refine lv_aload_n hx hb dL_law_32 rfl (lv_at hl 0 rfl) ?_
      refine lv_iload hx hb dL_law_33 (lv_at hl 4 rfl) ?_
      refine va_sld hx hb hX hbl hbA hS h0 dL_law_35 ?_
      refine lv_bipush (v := (15 : Int32)) hx hb dL_law_36 (by decide +kernel) ?_
      refine lv_iand hx hb dL_law_38 ?_
      obtain ⟨w, hw, ew⟩ := lw_and15 (xs x4.toNatClampNeg)
      rw [ew]
      rcases (show w = 0 ∨ w = 1 ∨ w = 2 ∨ w = 3 ∨ w = 4 ∨ w = 5 ∨ w = 6 ∨ w = 7 ∨ w = 8 ∨ w = 9 ∨ w = 10 ∨ w = 11 ∨ w = 12 ∨ w = 13 ∨ w = 14 ∨ w = 15 by omega) with rfl | rfl | rfl | rfl | rfl | rfl | rfl | rfl | rfl | rfl | rfl | rfl | rfl | rfl | rfl | rfl
      · exact lv_tableIn (off := 69) (tgt := 108) hx hb dL_law_39 (by decide +kernel) (by decide +kernel) (by decide +kernel) (by decide) (turn_instruction F0' h1 h2 h3 h4 hcr I kk)
      · exact lv_tableIn (off := 161) (tgt := 200) hx hb dL_law_39 (by decide +kernel) (by decide +kernel) (by decide +kernel) (by decide) (turn_take F0' hcr I kk)
      · exact lv_tableIn (off := 205) (tgt := 244) hx hb dL_law_39 (by decide +kernel) (by decide +kernel) (by decide +kernel) (by decide) (turn_pass F0' h1 hcr I kk)
      · exact lv_tableIn (off := 261) (tgt := 300) hx hb dL_law_39 (by decide +kernel) (by decide +kernel) (by decide +kernel) (by decide) (turn_allocate F0' h1 hcr I kk)
      · exact lv_tableIn (off := 317) (tgt := 356) hx hb dL_law_39 (by decide +kernel) (by decide +kernel) (by decide +kernel) (by decide) (turn_home F0' h1 hcr I kk)
      · exact lv_tableIn (off := 373) (tgt := 412) hx hb dL_law_39 (by decide +kernel) (by decide +kernel) (by decide +kernel) (by decide) (turn_restore F0' hcr I kk)
      · exact lv_tableIn (off := 397) (tgt := 436) hx hb dL_law_39 (by decide +kernel) (by decide +kernel) (by decide +kernel) (by decide) (turn_length F0' h1 z hz hcr I kk)
      · exact lv_tableIn (off := 438) (tgt := 477) hx hb dL_law_39 (by decide +kernel) (by decide +kernel) (by decide +kernel) (by decide) (turn_look F0' h1 h2 h3 z hz hcr I kk)
      · exact lv_tableIn (off := 534) (tgt := 573) hx hb dL_law_39 (by decide +kernel) (by decide +kernel) (by decide +kernel) (by decide) (turn_poke F0' h1 h2 hcr I kk)
      · exact lv_tableIn (off := 582) (tgt := 621) hx hb dL_law_39 (by decide +kernel) (by decide +kernel) (by decide +kernel) (by decide) (turn_run F0' h1 h2 h3 z hz hcr I kk)
      · exact lv_tableIn (off := 678) (tgt := 717) hx hb dL_law_39 (by decide +kernel) (by decide +kernel) (by decide +kernel) (by decide) (turn_value F0' hcr I kk)
      · exact lv_tableIn (off := 722) (tgt := 761) hx hb dL_law_39 (by decide +kernel) (by decide +kernel) (by decide +kernel) (by decide) (turn_cell F0' h1 hcr I kk)
      · exact lv_tableIn (off := 778) (tgt := 817) hx hb dL_law_39 (by decide +kernel) (by decide +kernel) (by decide +kernel) (by decide) (turn_traced F0' h1 hcr I kk)
      · exact lv_tableIn (off := 834) (tgt := 873) hx hb dL_law_39 (by decide +kernel) (by decide +kernel) (by decide +kernel) (by decide) (turn_steps F0' hcr I kk)
      · exact lv_tableOut (tgt := 886) hx hb dL_law_39 (Or.inr (by decide +kernel)) (by decide) (W.widen (Nat.le_add_right _ 1) (Nat.le_add_right _ 6) (kk _ _ _ I))
      · exact lv_tableOut (tgt := 886) hx hb dL_law_39 (Or.inr (by decide +kernel)) (by decide) (W.widen (Nat.le_add_right _ 1) (Nat.le_add_right _ 6) (kk _ _ _ I))
