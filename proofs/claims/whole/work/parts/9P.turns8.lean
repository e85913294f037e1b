set_option maxHeartbeats 4000000 in
set_option maxRecDepth 100000 in
theorem turn_value {p : Program} {l : Launch} {e : Env} {s : State} {m : MethodId} {below : List Frame} {meth : Method} {c : Code} {D : va_G} {cI cZ cJ : ClassId} {h : Nat → Nat} {b L : Nat} {xs : Nat → Int32} {H : Heap} {locs : List Loc} {ls : Array Slot} {cells slots : Nat} {Q : State → Prop} {x4 : Int32} (F : lwF p l s m c D cI cZ cJ b L xs) (hcr : cells + 1 ≤ 601024 ∧ slots + 6 ≤ 7293034) (I : lwI s D cI cZ cJ h b x4 H locs ls)
    (kk : ∀ (H1 : Heap) (locs1 : List Loc) (ls1 : Array Slot), lwI s D cI cZ cJ h b x4 H1 locs1 ls1 → W p l e room_1 s m #[Value.ref b] below meth c H1 locs1 (cells + 1) (slots + 6) Q (F0 m 886 ls1 [])) : W p l e room_1 s m #[Value.ref b] below meth c H locs cells slots Q (F0 m 717 ls []) := by
  obtain ⟨S, hK, TR, hN, hX, hbl, hlt⟩ := F
  have hx := S.1
  have hb := S.2.1
  have hts := S.2.2.2.2
  have hA : ∀ q : Nat, s.heap.size ≤ q → lwA s q := fun _ h => h
  have hbA : ¬ lwA s b := Nat.not_le.mpr hbl
  obtain ⟨da, db, dd, dk, oa, ob, od, ok, pa, pb, pd, pk, ho, bg, me, tr, fl, kn, nu, re, bf, lv, pl, eK, eV, eX, eY, hld, cf, sa, sb, sd, sk, sts, rg, msl, ga, gb, gd9, gk, gs, hoM, bgM, mm, dn, hlM, knM, mk, nuM, plM, reM, se, vK, vO, vW, Rm, Sm, dc, oc, pc, tk, al, tc, st, en, rt, fkn, ch, ets, nv, asl, vs, tv, chM, vals, bb, slM, va, fo, PI, hch, hP, hD, hS, hl⟩ := I
  obtain ⟨k, fo', rb, g1, g2, hans⟩ := sim_value PI fo tv
  refine lv_aload_n hx hb dL_law_717 rfl (lv_at hl 1 rfl) ?_
  refine lv_aload_n hx hb dL_law_718 rfl (lv_at hl 3 rfl) ?_
  refine g_lawL (ww' := lwW h cI cZ cJ da db dd dk oa ob od ok pa pb pd pk ho bg me tr fl kn nu re bf lv pl eK eV eX eY hld cf sa sb sd sk sts rg msl ga gb gd9 gk gs hoM bgM mm tr dn hlM knM mk nuM plM reM se vK vO vW Rm Sm dc oc pc tk al tc st en rt fkn ch ets nv asl vs tv tk al chM vals bb slM tc st en va fo') S (c_L_value l hlt D cI cZ cJ (h 0) (h 1) (h 6) (h 11) (h 16) (h 18) (h 23) (h 29) (h 32) (h 41) (h 42) (h 43) (h 44) (h 45) (h 46) (h 70) _ tk al tc st en rt fo _ g1) (vx_cwSW 2 hts gl_L_value rfl rfl rfl (by decide +kernel) ⟨(Nat.le_of_ble_eq_true rfl), (Nat.le_of_ble_eq_true rfl)⟩) hK hP hD hS hA TR hN [0, 41, 70] [some 0, none, none, none, none, none, none, none, none, none, none, none, none, none, none, none, none, none, none, none, none, none, none, none, none, none, none, none, none, none, none, none, none, none, none, none, none, none, none, none, none, some 1, none, none, none, none, none, none, none, none, none, none, none, none, none, none, none, none, none, none, none, none, none, none, none, none, none, none, none, none, some 2] rfl (by decide) rfl rfl (by decide) rfl hl.1 rfl (Nat.le_of_ble_eq_true rfl) dL_law_719 hcr (fun H locs hP hD hS => ?_)
  refine lv_istore (lv' := [(5, .int k), (0, .ref b), (1, .ref (h 0)), (2, .ref (h 47)), (3, .ref (h 70)), (4, .int x4)]) hx hb dL_law_722 hl (by decide) rfl (fun ls hl => ?_)
  refine lv_aload_n hx hb dL_law_724 rfl (lv_at hl 3 rfl) ?_
  refine g_lawVi (ww' := lwW h cI cZ cJ da db dd dk oa ob od ok pa pb pd pk ho bg me tr fl kn nu re bf lv pl eK eV eX eY hld cf sa sb sd sk sts rg msl ga gb gd9 gk gs hoM bgM mm tr dn hlM knM mk nuM plM reM se vK vO vW Rm Sm dc oc pc tk al tc st en rt fkn ch ets nv asl vs k tk al chM vals bb slM tc st en va fo') S (c_X9_value l D cI cZ (h 47) (h 48) (h 49) (h 50) (h 51) (h 52) (h 53) (h 54) (h 55) (h 56) (h 57) (h 58) (h 59) (h 60) (h 61) (h 62) (h 63) (h 64) (h 65) (h 66) (h 67) (h 68) (h 69) _ tv tk al chM vals bb slM tc st en va _ g2) (cwV 0 hts gl_X9_value rfl rfl rfl (by decide +kernel) ⟨(Nat.le_of_ble_eq_true rfl), (Nat.le_of_ble_eq_true rfl)⟩) (hK.sub [0, 1] rfl) hP hD hS hA 47 (ci := 8) rfl rfl [47] [none, none, none, none, none, none, none, none, none, none, none, none, none, none, none, none, none, none, none, none, none, none, none, none, none, none, none, none, none, none, none, none, none, none, none, none, none, none, none, none, none, none, none, none, none, none, none, some 0, none, none, none, none, none, none, none, none, none, none, none, none, none, none, none, none, none, none, none, none, none, none, none] rfl (by decide) rfl rfl (by decide) rfl hl.1 rfl (Nat.le_of_ble_eq_true rfl) dL_law_725 hcr (fun H locs hP hD hS => ?_)
  refine lv_istore (lv' := [(6, .int rb), (5, .int k), (0, .ref b), (1, .ref (h 0)), (2, .ref (h 47)), (3, .ref (h 70)), (4, .int x4)]) hx hb dL_law_728 hl (by decide) rfl (fun ls hl => ?_)
  refine lv_aload_n hx hb dL_law_730 rfl (lv_at hl 4 rfl) ?_
  refine g_lawVi (ww' := lwW h cI cZ cJ da db dd dk oa ob od ok pa pb pd pk ho bg me tr fl kn nu re bf lv pl eK eV eX eY hld cf sa sb sd sk sts rg msl ga gb gd9 gk gs hoM bgM mm tr dn hlM knM mk nuM plM reM se vK vO vW Rm Sm dc oc pc tk al tc st en rt fkn ch ets nv asl vs k tk al chM vals bb slM tc st en va fo') S (c_X9_thrown l D cI cZ (h 47) (h 48) (h 49) (h 50) (h 51) (h 52) (h 53) (h 54) (h 55) (h 56) (h 57) (h 58) (h 59) (h 60) (h 61) (h 62) (h 63) (h 64) (h 65) (h 66) (h 67) (h 68) (h 69) _ k tk al chM vals bb slM tc st en va _ rfl) (cwV 0 hts gl_X9_thrown rfl rfl rfl (by decide +kernel) ⟨(Nat.le_of_ble_eq_true rfl), (Nat.le_of_ble_eq_true rfl)⟩) (hK.sub [0, 1] rfl) hP hD hS hA 47 (ci := 8) rfl rfl [47] [none, none, none, none, none, none, none, none, none, none, none, none, none, none, none, none, none, none, none, none, none, none, none, none, none, none, none, none, none, none, none, none, none, none, none, none, none, none, none, none, none, none, none, none, none, none, none, some 0, none, none, none, none, none, none, none, none, none, none, none, none, none, none, none, none, none, none, none, none, none, none, none] rfl (by decide) rfl rfl (by decide) rfl hl.1 rfl (Nat.le_of_ble_eq_true rfl) dL_law_731 hcr (fun H locs hP hD hS => ?_)
  refine lv_iload hx hb dL_law_734 (lv_at hl 1 rfl) ?_
  refine lv_icmp_eq (tgt := 741) hx hb dL_law_736 (by decide) (fun _ => ?_) (fun q => absurd rfl q)
  refine lv_iload hx hb dL_law_741 (lv_at hl 1 rfl) ?_
  have fin : W p l e room_1 s m #[Value.ref b] below meth c H locs (cells + 1) (slots + 6) Q (F0 m 758 ls []) := by
    refine lv_goto (tgt := 886) hx hb dL_law_758 (by decide) ?_
    exact kk _ _ _ ⟨da, db, dd, dk, oa, ob, od, ok, pa, pb, pd, pk, ho, bg, me, tr, fl, kn, nu, re, bf, lv, pl, eK, eV, eX, eY, hld, cf, sa, sb, sd, sk, sts, rg, msl, ga, gb, gd9, gk, gs, hoM, bgM, mm, dn, hlM, knM, mk, nuM, plM, reM, se, vK, vO, vW, Rm, Sm, dc, oc, pc, tk, al, tc, st, en, rt, fkn, ch, ets, nv, asl, vs, k, chM, vals, bb, slM, va, fo', PI, hch, hP, hD, hS, lv_sub hl [2, 3, 4, 5, 6] rfl⟩
  refine lv_if_ne (tgt := 758) hx hb dL_law_743 (by decide) (fun _ => fin) (fun k0 => ?_)
  refine lv_aload_n hx hb dL_law_746 rfl (lv_at hl 5 rfl) ?_
  refine lv_iconst (v := (0 : Int32)) hx hb dL_law_747 (by decide) ?_
  refine va_lald hx hb hK hP 70 2 rfl rfl (show vp_in 0 1 by unfold vp_in; decide) dL_law_748 ?_
  refine lv_iload hx hb dL_law_749 (lv_at hl 0 rfl) ?_
  refine lv_i2l (v := rb.toInt64) hx hb dL_law_751 rfl ?_
  refine W.lcmp hx hb dL_law_752 ?_
  exact lv_if_eq (tgt := 758) hx hb dL_law_753 (by decide) (fun _ => fin) (fun q => absurd (by rw [show (0 : Int32).toNatClampNeg = 0 from rfl, hans k0]; exact lg_cmp_self _) q)

set_option maxHeartbeats 4000000 in
set_option maxRecDepth 100000 in
theorem turn_cell {p : Program} {l : Launch} {e : Env} {s : State} {m : MethodId} {below : List Frame} {meth : Method} {c : Code} {D : va_G} {cI cZ cJ : ClassId} {h : Nat → Nat} {b L : Nat} {xs : Nat → Int32} {H : Heap} {locs : List Loc} {ls : Array Slot} {cells slots : Nat} {Q : State → Prop} {x4 : Int32} (F : lwF p l s m c D cI cZ cJ b L xs) (h1 : vp_in (x4 + 1) L) (hcr : cells + 1 ≤ 601024 ∧ slots + 6 ≤ 7293034) (I : lwI s D cI cZ cJ h b x4 H locs ls)
    (kk : ∀ (H1 : Heap) (locs1 : List Loc) (ls1 : Array Slot), lwI s D cI cZ cJ h b x4 H1 locs1 ls1 → W p l e room_1 s m #[Value.ref b] below meth c H1 locs1 (cells + 1) (slots + 6) Q (F0 m 886 ls1 [])) : W p l e room_1 s m #[Value.ref b] below meth c H locs cells slots Q (F0 m 761 ls []) := by
  obtain ⟨S, hK, TR, hN, hX, hbl, hlt⟩ := F
  have hx := S.1
  have hb := S.2.1
  have hts := S.2.2.2.2
  have hA : ∀ q : Nat, s.heap.size ≤ q → lwA s q := fun _ h => h
  have hbA : ¬ lwA s b := Nat.not_le.mpr hbl
  obtain ⟨da, db, dd, dk, oa, ob, od, ok, pa, pb, pd, pk, ho, bg, me, tr, fl, kn, nu, re, bf, lv, pl, eK, eV, eX, eY, hld, cf, sa, sb, sd, sk, sts, rg, msl, ga, gb, gd9, gk, gs, hoM, bgM, mm, dn, hlM, knM, mk, nuM, plM, reM, se, vK, vO, vW, Rm, Sm, dc, oc, pc, tk, al, tc, st, en, rt, fkn, ch, ets, nv, asl, vs, tv, chM, vals, bb, slM, va, fo, PI, hch, hP, hD, hS, hl⟩ := I
  obtain ⟨k, fo', rb, g1, g2, hans⟩ := sim_cell PI fo tv (xs (x4 + 1).toNatClampNeg)
  refine lv_aload_n hx hb dL_law_761 rfl (lv_at hl 1 rfl) ?_
  refine lv_aload_n hx hb dL_law_762 rfl (lv_at hl 0 rfl) ?_
  refine lv_iload hx hb dL_law_763 (lv_at hl 4 rfl) ?_
  refine lv_iconst (v := (1 : Int32)) hx hb dL_law_765 (by decide) ?_
  refine lv_iadd hx hb dL_law_766 ?_
  refine va_sld hx hb hX hbl hbA hS h1 dL_law_767 ?_
  refine lv_aload_n hx hb dL_law_768 rfl (lv_at hl 3 rfl) ?_
  refine g_lawL (ww' := lwW h cI cZ cJ da db dd dk oa ob od ok pa pb pd pk ho bg me tr fl kn nu re bf lv pl eK eV eX eY hld cf sa sb sd sk sts rg msl ga gb gd9 gk gs hoM bgM mm tr dn hlM knM mk nuM plM reM se vK vO vW Rm Sm dc oc pc tk al tc st en rt fkn ch ets nv asl vs tv tk al chM vals bb slM tc st en va fo') S (c_L_cell l hlt D cI cZ cJ (h 0) (h 1) (h 6) (h 11) (h 16) (h 18) (h 23) (h 29) (h 32) (h 41) (h 42) (h 43) (h 44) (h 45) (h 46) (h 70) _ bg me tk al tc st en rt fo (xs (x4 + 1).toNatClampNeg) _ g1) (vx_cwSW 3 hts gl_L_cell rfl rfl rfl (by decide +kernel) ⟨(Nat.le_of_ble_eq_true rfl), (Nat.le_of_ble_eq_true rfl)⟩) hK hP hD hS hA TR hN [0, 41, 42, 43, 70] [some 0, none, none, none, none, none, none, none, none, none, none, none, none, none, none, none, none, none, none, none, none, none, none, none, none, none, none, none, none, none, none, none, none, none, none, none, none, none, none, none, none, some 1, some 2, some 3, none, none, none, none, none, none, none, none, none, none, none, none, none, none, none, none, none, none, none, none, none, none, none, none, none, none, some 4] rfl (by decide) rfl rfl (by decide) rfl hl.1 rfl (Nat.le_of_ble_eq_true rfl) dL_law_769 hcr (fun H locs hP hD hS => ?_)
  refine lv_istore (lv' := [(5, .int k), (0, .ref b), (1, .ref (h 0)), (2, .ref (h 47)), (3, .ref (h 70)), (4, .int x4)]) hx hb dL_law_772 hl (by decide) rfl (fun ls hl => ?_)
  refine lv_aload_n hx hb dL_law_774 rfl (lv_at hl 3 rfl) ?_
  refine lv_aload_n hx hb dL_law_775 rfl (lv_at hl 1 rfl) ?_
  refine lv_iload hx hb dL_law_776 (lv_at hl 5 rfl) ?_
  refine lv_iconst (v := (1 : Int32)) hx hb dL_law_778 (by decide) ?_
  refine lv_iadd hx hb dL_law_779 ?_
  refine va_sld hx hb hX hbl hbA hS h1 dL_law_780 ?_
  refine g_lawVi (ww' := lwW h cI cZ cJ da db dd dk oa ob od ok pa pb pd pk ho bg me tr fl kn nu re bf lv pl eK eV eX eY hld cf sa sb sd sk sts rg msl ga gb gd9 gk gs hoM bgM mm tr dn hlM knM mk nuM plM reM se vK vO vW Rm Sm dc oc pc tk al tc st en rt fkn ch ets nv asl vs k tk al chM vals bb slM tc st en va fo') S (c_X9_cell l D cI cZ (h 47) (h 48) (h 49) (h 50) (h 51) (h 52) (h 53) (h 54) (h 55) (h 56) (h 57) (h 58) (h 59) (h 60) (h 61) (h 62) (h 63) (h 64) (h 65) (h 66) (h 67) (h 68) (h 69) _ mm tv tk al chM vals bb slM tc st en va (xs (x4 + 1).toNatClampNeg) _ g2) (cwV 1 hts gl_X9_cell rfl rfl rfl (by decide +kernel) ⟨(Nat.le_of_ble_eq_true rfl), (Nat.le_of_ble_eq_true rfl)⟩) (hK.sub [0, 1] rfl) hP hD hS hA 47 (ci := 8) rfl rfl [47, 66] [none, none, none, none, none, none, none, none, none, none, none, none, none, none, none, none, none, none, none, none, none, none, none, none, none, none, none, none, none, none, none, none, none, none, none, none, none, none, none, none, none, none, none, none, none, none, none, some 0, none, none, none, none, none, none, none, none, none, none, none, none, none, none, none, none, none, none, some 1, none, none, none, none] rfl (by decide) rfl rfl (by decide) rfl hl.1 rfl (Nat.le_of_ble_eq_true rfl) dL_law_781 hcr (fun H locs hP hD hS => ?_)
  refine lv_istore (lv' := [(6, .int rb), (5, .int k), (0, .ref b), (1, .ref (h 0)), (2, .ref (h 47)), (3, .ref (h 70)), (4, .int x4)]) hx hb dL_law_784 hl (by decide) rfl (fun ls hl => ?_)
  refine lv_aload_n hx hb dL_law_786 rfl (lv_at hl 4 rfl) ?_
  refine g_lawVi (ww' := lwW h cI cZ cJ da db dd dk oa ob od ok pa pb pd pk ho bg me tr fl kn nu re bf lv pl eK eV eX eY hld cf sa sb sd sk sts rg msl ga gb gd9 gk gs hoM bgM mm tr dn hlM knM mk nuM plM reM se vK vO vW Rm Sm dc oc pc tk al tc st en rt fkn ch ets nv asl vs k tk al chM vals bb slM tc st en va fo') S (c_X9_thrown l D cI cZ (h 47) (h 48) (h 49) (h 50) (h 51) (h 52) (h 53) (h 54) (h 55) (h 56) (h 57) (h 58) (h 59) (h 60) (h 61) (h 62) (h 63) (h 64) (h 65) (h 66) (h 67) (h 68) (h 69) _ k tk al chM vals bb slM tc st en va _ rfl) (cwV 0 hts gl_X9_thrown rfl rfl rfl (by decide +kernel) ⟨(Nat.le_of_ble_eq_true rfl), (Nat.le_of_ble_eq_true rfl)⟩) (hK.sub [0, 1] rfl) hP hD hS hA 47 (ci := 8) rfl rfl [47] [none, none, none, none, none, none, none, none, none, none, none, none, none, none, none, none, none, none, none, none, none, none, none, none, none, none, none, none, none, none, none, none, none, none, none, none, none, none, none, none, none, none, none, none, none, none, none, some 0, none, none, none, none, none, none, none, none, none, none, none, none, none, none, none, none, none, none, none, none, none, none, none] rfl (by decide) rfl rfl (by decide) rfl hl.1 rfl (Nat.le_of_ble_eq_true rfl) dL_law_787 hcr (fun H locs hP hD hS => ?_)
  refine lv_iload hx hb dL_law_790 (lv_at hl 1 rfl) ?_
  refine lv_icmp_eq (tgt := 797) hx hb dL_law_792 (by decide) (fun _ => ?_) (fun q => absurd rfl q)
  refine lv_iload hx hb dL_law_797 (lv_at hl 1 rfl) ?_
  have fin : W p l e room_1 s m #[Value.ref b] below meth c H locs (cells + 1) (slots + 6) Q (F0 m 814 ls []) := by
    refine lv_goto (tgt := 886) hx hb dL_law_814 (by decide) ?_
    exact kk _ _ _ ⟨da, db, dd, dk, oa, ob, od, ok, pa, pb, pd, pk, ho, bg, me, tr, fl, kn, nu, re, bf, lv, pl, eK, eV, eX, eY, hld, cf, sa, sb, sd, sk, sts, rg, msl, ga, gb, gd9, gk, gs, hoM, bgM, mm, dn, hlM, knM, mk, nuM, plM, reM, se, vK, vO, vW, Rm, Sm, dc, oc, pc, tk, al, tc, st, en, rt, fkn, ch, ets, nv, asl, vs, k, chM, vals, bb, slM, va, fo', PI, hch, hP, hD, hS, lv_sub hl [2, 3, 4, 5, 6] rfl⟩
  refine lv_if_ne (tgt := 814) hx hb dL_law_799 (by decide) (fun _ => fin) (fun k0 => ?_)
  refine lv_aload_n hx hb dL_law_802 rfl (lv_at hl 5 rfl) ?_
  refine lv_iconst (v := (0 : Int32)) hx hb dL_law_803 (by decide) ?_
  refine va_lald hx hb hK hP 70 2 rfl rfl (show vp_in 0 1 by unfold vp_in; decide) dL_law_804 ?_
  refine lv_iload hx hb dL_law_805 (lv_at hl 0 rfl) ?_
  refine lv_i2l (v := rb.toInt64) hx hb dL_law_807 rfl ?_
  refine W.lcmp hx hb dL_law_808 ?_
  exact lv_if_eq (tgt := 814) hx hb dL_law_809 (by decide) (fun _ => fin) (fun q => absurd (by rw [show (0 : Int32).toNatClampNeg = 0 from rfl, hans k0]; exact lg_cmp_self _) q)

set_option maxHeartbeats 4000000 in
set_option maxRecDepth 100000 in
theorem turn_traced {p : Program} {l : Launch} {e : Env} {s : State} {m : MethodId} {below : List Frame} {meth : Method} {c : Code} {D : va_G} {cI cZ cJ : ClassId} {h : Nat → Nat} {b L : Nat} {xs : Nat → Int32} {H : Heap} {locs : List Loc} {ls : Array Slot} {cells slots : Nat} {Q : State → Prop} {x4 : Int32} (F : lwF p l s m c D cI cZ cJ b L xs) (h1 : vp_in (x4 + 1) L) (hcr : cells + 1 ≤ 601024 ∧ slots + 6 ≤ 7293034) (I : lwI s D cI cZ cJ h b x4 H locs ls)
    (kk : ∀ (H1 : Heap) (locs1 : List Loc) (ls1 : Array Slot), lwI s D cI cZ cJ h b x4 H1 locs1 ls1 → W p l e room_1 s m #[Value.ref b] below meth c H1 locs1 (cells + 1) (slots + 6) Q (F0 m 886 ls1 [])) : W p l e room_1 s m #[Value.ref b] below meth c H locs cells slots Q (F0 m 817 ls []) := by
  obtain ⟨S, hK, TR, hN, hX, hbl, hlt⟩ := F
  have hx := S.1
  have hb := S.2.1
  have hts := S.2.2.2.2
  have hA : ∀ q : Nat, s.heap.size ≤ q → lwA s q := fun _ h => h
  have hbA : ¬ lwA s b := Nat.not_le.mpr hbl
  obtain ⟨da, db, dd, dk, oa, ob, od, ok, pa, pb, pd, pk, ho, bg, me, tr, fl, kn, nu, re, bf, lv, pl, eK, eV, eX, eY, hld, cf, sa, sb, sd, sk, sts, rg, msl, ga, gb, gd9, gk, gs, hoM, bgM, mm, dn, hlM, knM, mk, nuM, plM, reM, se, vK, vO, vW, Rm, Sm, dc, oc, pc, tk, al, tc, st, en, rt, fkn, ch, ets, nv, asl, vs, tv, chM, vals, bb, slM, va, fo, PI, hch, hP, hD, hS, hl⟩ := I
  obtain ⟨k, fo', rb, g1, g2, hans⟩ := sim_traced (tr := tr) PI fo tv (xs (x4 + 1).toNatClampNeg)
  refine lv_aload_n hx hb dL_law_817 rfl (lv_at hl 1 rfl) ?_
  refine lv_aload_n hx hb dL_law_818 rfl (lv_at hl 0 rfl) ?_
  refine lv_iload hx hb dL_law_819 (lv_at hl 4 rfl) ?_
  refine lv_iconst (v := (1 : Int32)) hx hb dL_law_821 (by decide) ?_
  refine lv_iadd hx hb dL_law_822 ?_
  refine va_sld hx hb hX hbl hbA hS h1 dL_law_823 ?_
  refine lv_aload_n hx hb dL_law_824 rfl (lv_at hl 3 rfl) ?_
  refine g_lawL (ww' := lwW h cI cZ cJ da db dd dk oa ob od ok pa pb pd pk ho bg me tr fl kn nu re bf lv pl eK eV eX eY hld cf sa sb sd sk sts rg msl ga gb gd9 gk gs hoM bgM mm tr dn hlM knM mk nuM plM reM se vK vO vW Rm Sm dc oc pc tk al tc st en rt fkn ch ets nv asl vs tv tk al chM vals bb slM tc st en va fo') S (c_L_traced l hlt D cI cZ cJ (h 0) (h 1) (h 6) (h 11) (h 16) (h 18) (h 23) (h 29) (h 32) (h 41) (h 42) (h 43) (h 44) (h 45) (h 46) (h 70) _ tr tk al tc st en rt fo (xs (x4 + 1).toNatClampNeg) _ g1) (vx_cwSW 3 hts gl_L_traced rfl rfl rfl (by decide +kernel) ⟨(Nat.le_of_ble_eq_true rfl), (Nat.le_of_ble_eq_true rfl)⟩) hK hP hD hS hA TR hN [0, 41, 44, 70] [some 0, none, none, none, none, none, none, none, none, none, none, none, none, none, none, none, none, none, none, none, none, none, none, none, none, none, none, none, none, none, none, none, none, none, none, none, none, none, none, none, none, some 1, none, none, some 2, none, none, none, none, none, none, none, none, none, none, none, none, none, none, none, none, none, none, none, none, none, none, none, none, none, some 3] rfl (by decide) rfl rfl (by decide) rfl hl.1 rfl (Nat.le_of_ble_eq_true rfl) dL_law_825 hcr (fun H locs hP hD hS => ?_)
  refine lv_istore (lv' := [(5, .int k), (0, .ref b), (1, .ref (h 0)), (2, .ref (h 47)), (3, .ref (h 70)), (4, .int x4)]) hx hb dL_law_828 hl (by decide) rfl (fun ls hl => ?_)
  refine lv_aload_n hx hb dL_law_830 rfl (lv_at hl 3 rfl) ?_
  refine lv_aload_n hx hb dL_law_831 rfl (lv_at hl 1 rfl) ?_
  refine lv_iload hx hb dL_law_832 (lv_at hl 5 rfl) ?_
  refine lv_iconst (v := (1 : Int32)) hx hb dL_law_834 (by decide) ?_
  refine lv_iadd hx hb dL_law_835 ?_
  refine va_sld hx hb hX hbl hbA hS h1 dL_law_836 ?_
  refine g_lawVi (ww' := lwW h cI cZ cJ da db dd dk oa ob od ok pa pb pd pk ho bg me tr fl kn nu re bf lv pl eK eV eX eY hld cf sa sb sd sk sts rg msl ga gb gd9 gk gs hoM bgM mm tr dn hlM knM mk nuM plM reM se vK vO vW Rm Sm dc oc pc tk al tc st en rt fkn ch ets nv asl vs k tk al chM vals bb slM tc st en va fo') S (c_X9_traced l D cI cZ (h 47) (h 48) (h 49) (h 50) (h 51) (h 52) (h 53) (h 54) (h 55) (h 56) (h 57) (h 58) (h 59) (h 60) (h 61) (h 62) (h 63) (h 64) (h 65) (h 66) (h 67) (h 68) (h 69) _ tr tv tk al chM vals bb slM tc st en va (xs (x4 + 1).toNatClampNeg) _ g2) (cwV 1 hts gl_X9_traced rfl rfl rfl (by decide +kernel) ⟨(Nat.le_of_ble_eq_true rfl), (Nat.le_of_ble_eq_true rfl)⟩) (hK.sub [0, 1] rfl) hP hD hS hA 47 (ci := 8) rfl rfl [47, 69] [none, none, none, none, none, none, none, none, none, none, none, none, none, none, none, none, none, none, none, none, none, none, none, none, none, none, none, none, none, none, none, none, none, none, none, none, none, none, none, none, none, none, none, none, none, none, none, some 0, none, none, none, none, none, none, none, none, none, none, none, none, none, none, none, none, none, none, none, none, none, some 1, none] rfl (by decide) rfl rfl (by decide) rfl hl.1 rfl (Nat.le_of_ble_eq_true rfl) dL_law_837 hcr (fun H locs hP hD hS => ?_)
  refine lv_istore (lv' := [(6, .int rb), (5, .int k), (0, .ref b), (1, .ref (h 0)), (2, .ref (h 47)), (3, .ref (h 70)), (4, .int x4)]) hx hb dL_law_840 hl (by decide) rfl (fun ls hl => ?_)
  refine lv_aload_n hx hb dL_law_842 rfl (lv_at hl 4 rfl) ?_
  refine g_lawVi (ww' := lwW h cI cZ cJ da db dd dk oa ob od ok pa pb pd pk ho bg me tr fl kn nu re bf lv pl eK eV eX eY hld cf sa sb sd sk sts rg msl ga gb gd9 gk gs hoM bgM mm tr dn hlM knM mk nuM plM reM se vK vO vW Rm Sm dc oc pc tk al tc st en rt fkn ch ets nv asl vs k tk al chM vals bb slM tc st en va fo') S (c_X9_thrown l D cI cZ (h 47) (h 48) (h 49) (h 50) (h 51) (h 52) (h 53) (h 54) (h 55) (h 56) (h 57) (h 58) (h 59) (h 60) (h 61) (h 62) (h 63) (h 64) (h 65) (h 66) (h 67) (h 68) (h 69) _ k tk al chM vals bb slM tc st en va _ rfl) (cwV 0 hts gl_X9_thrown rfl rfl rfl (by decide +kernel) ⟨(Nat.le_of_ble_eq_true rfl), (Nat.le_of_ble_eq_true rfl)⟩) (hK.sub [0, 1] rfl) hP hD hS hA 47 (ci := 8) rfl rfl [47] [none, none, none, none, none, none, none, none, none, none, none, none, none, none, none, none, none, none, none, none, none, none, none, none, none, none, none, none, none, none, none, none, none, none, none, none, none, none, none, none, none, none, none, none, none, none, none, some 0, none, none, none, none, none, none, none, none, none, none, none, none, none, none, none, none, none, none, none, none, none, none, none] rfl (by decide) rfl rfl (by decide) rfl hl.1 rfl (Nat.le_of_ble_eq_true rfl) dL_law_843 hcr (fun H locs hP hD hS => ?_)
  refine lv_iload hx hb dL_law_846 (lv_at hl 1 rfl) ?_
  refine lv_icmp_eq (tgt := 853) hx hb dL_law_848 (by decide) (fun _ => ?_) (fun q => absurd rfl q)
  refine lv_iload hx hb dL_law_853 (lv_at hl 1 rfl) ?_
  have fin : W p l e room_1 s m #[Value.ref b] below meth c H locs (cells + 1) (slots + 6) Q (F0 m 870 ls []) := by
    refine lv_goto (tgt := 886) hx hb dL_law_870 (by decide) ?_
    exact kk _ _ _ ⟨da, db, dd, dk, oa, ob, od, ok, pa, pb, pd, pk, ho, bg, me, tr, fl, kn, nu, re, bf, lv, pl, eK, eV, eX, eY, hld, cf, sa, sb, sd, sk, sts, rg, msl, ga, gb, gd9, gk, gs, hoM, bgM, mm, dn, hlM, knM, mk, nuM, plM, reM, se, vK, vO, vW, Rm, Sm, dc, oc, pc, tk, al, tc, st, en, rt, fkn, ch, ets, nv, asl, vs, k, chM, vals, bb, slM, va, fo', PI, hch, hP, hD, hS, lv_sub hl [2, 3, 4, 5, 6] rfl⟩
  refine lv_if_ne (tgt := 870) hx hb dL_law_855 (by decide) (fun _ => fin) (fun k0 => ?_)
  refine lv_aload_n hx hb dL_law_858 rfl (lv_at hl 5 rfl) ?_
  refine lv_iconst (v := (0 : Int32)) hx hb dL_law_859 (by decide) ?_
  refine va_lald hx hb hK hP 70 2 rfl rfl (show vp_in 0 1 by unfold vp_in; decide) dL_law_860 ?_
  refine lv_iload hx hb dL_law_861 (lv_at hl 0 rfl) ?_
  refine lv_i2l (v := rb.toInt64) hx hb dL_law_863 rfl ?_
  refine W.lcmp hx hb dL_law_864 ?_
  exact lv_if_eq (tgt := 870) hx hb dL_law_865 (by decide) (fun _ => fin) (fun q => absurd (by rw [show (0 : Int32).toNatClampNeg = 0 from rfl, hans k0]; exact lg_cmp_self _) q)

set_option maxHeartbeats 4000000 in
set_option maxRecDepth 100000 in
theorem turn_steps {p : Program} {l : Launch} {e : Env} {s : State} {m : MethodId} {below : List Frame} {meth : Method} {c : Code} {D : va_G} {cI cZ cJ : ClassId} {h : Nat → Nat} {b L : Nat} {xs : Nat → Int32} {H : Heap} {locs : List Loc} {ls : Array Slot} {cells slots : Nat} {Q : State → Prop} {x4 : Int32} (F : lwF p l s m c D cI cZ cJ b L xs) (hcr : cells + 1 ≤ 601024 ∧ slots + 6 ≤ 7293034) (I : lwI s D cI cZ cJ h b x4 H locs ls)
    (kk : ∀ (H1 : Heap) (locs1 : List Loc) (ls1 : Array Slot), lwI s D cI cZ cJ h b x4 H1 locs1 ls1 → W p l e room_1 s m #[Value.ref b] below meth c H1 locs1 (cells + 1) (slots + 6) Q (F0 m 886 ls1 [])) : W p l e room_1 s m #[Value.ref b] below meth c H locs cells slots Q (F0 m 873 ls []) := by
  obtain ⟨S, hK, TR, hN, hX, hbl, hlt⟩ := F
  have hx := S.1
  have hb := S.2.1
  have hts := S.2.2.2.2
  have hA : ∀ q : Nat, s.heap.size ≤ q → lwA s q := fun _ h => h
  have hbA : ¬ lwA s b := Nat.not_le.mpr hbl
  obtain ⟨da, db, dd, dk, oa, ob, od, ok, pa, pb, pd, pk, ho, bg, me, tr, fl, kn, nu, re, bf, lv, pl, eK, eV, eX, eY, hld, cf, sa, sb, sd, sk, sts, rg, msl, ga, gb, gd9, gk, gs, hoM, bgM, mm, dn, hlM, knM, mk, nuM, plM, reM, se, vK, vO, vW, Rm, Sm, dc, oc, pc, tk, al, tc, st, en, rt, fkn, ch, ets, nv, asl, vs, tv, chM, vals, bb, slM, va, fo, PI, hch, hP, hD, hS, hl⟩ := I
  refine W.widen (k := cells + 1) (n := slots + 6) (Nat.le_add_right _ _) (Nat.le_add_right _ _) ?_
  refine lv_aload_n hx hb dL_law_873 rfl (lv_at hl 1 rfl) ?_
  refine g_lawVi (ww' := lwW h cI cZ cJ da db dd dk oa ob od ok pa pb pd pk ho bg me tr fl kn nu re bf lv pl eK eV eX eY hld cf sa sb sd sk sts rg msl ga gb gd9 gk gs hoM bgM mm tr dn hlM knM mk nuM plM reM se vK vO vW Rm Sm dc oc pc tk al tc st en rt fkn ch ets nv asl vs tv tk al chM vals bb slM tc st en va fo) S (c_X8_steps l D cI cZ (h 0) (h 1) (h 6) (h 11) (h 16) (h 18) (h 23) (h 29) (h 32) (h 41) (h 42) (h 43) (h 44) (h 45) (h 46) _ tk al tc st en rt _ rfl) (cwV 0 hts gl_X8_steps rfl rfl rfl (by decide +kernel) ⟨(Nat.le_of_ble_eq_true rfl), (Nat.le_of_ble_eq_true rfl)⟩) (hK.sub [0, 1] rfl) hP hD hS hA 0 (ci := 7) rfl rfl [0, 41] [some 0, none, none, none, none, none, none, none, none, none, none, none, none, none, none, none, none, none, none, none, none, none, none, none, none, none, none, none, none, none, none, none, none, none, none, none, none, none, none, none, none, some 1, none, none, none, none, none, none, none, none, none, none, none, none, none, none, none, none, none, none, none, none, none, none, none, none, none, none, none, none, none] rfl (by decide) rfl rfl (by decide) rfl hl.1 rfl (Nat.le_of_ble_eq_true rfl) dL_law_874 hcr (fun H locs hP hD hS => ?_)
  refine lv_aload_n hx hb dL_law_877 rfl (lv_at hl 2 rfl) ?_
  refine g_lawVi (ww' := lwW h cI cZ cJ da db dd dk oa ob od ok pa pb pd pk ho bg me tr fl kn nu re bf lv pl eK eV eX eY hld cf sa sb sd sk sts rg msl ga gb gd9 gk gs hoM bgM mm tr dn hlM knM mk nuM plM reM se vK vO vW Rm Sm dc oc pc tk al tc st en rt fkn ch ets nv asl vs 0 tk al chM vals bb slM tc st en va fo) S (c_X9_steps l D cI cZ (h 47) (h 48) (h 49) (h 50) (h 51) (h 52) (h 53) (h 54) (h 55) (h 56) (h 57) (h 58) (h 59) (h 60) (h 61) (h 62) (h 63) (h 64) (h 65) (h 66) (h 67) (h 68) (h 69) _ tv tk al chM vals bb slM tc st en va _ rfl) (cwV 0 hts gl_X9_steps rfl rfl rfl (by decide +kernel) ⟨(Nat.le_of_ble_eq_true rfl), (Nat.le_of_ble_eq_true rfl)⟩) (hK.sub [0, 1] rfl) hP hD hS hA 47 (ci := 8) rfl rfl [47] [none, none, none, none, none, none, none, none, none, none, none, none, none, none, none, none, none, none, none, none, none, none, none, none, none, none, none, none, none, none, none, none, none, none, none, none, none, none, none, none, none, none, none, none, none, none, none, some 0, none, none, none, none, none, none, none, none, none, none, none, none, none, none, none, none, none, none, none, none, none, none, none] rfl (by decide) rfl rfl (by decide) rfl hl.1 rfl (Nat.le_of_ble_eq_true rfl) dL_law_878 hcr (fun H locs hP hD hS => ?_)
  refine lv_icmp_eq (tgt := 886) hx hb dL_law_881 (by decide) (fun _ => ?_) (fun q => absurd rfl q)
  exact kk _ _ _ ⟨da, db, dd, dk, oa, ob, od, ok, pa, pb, pd, pk, ho, bg, me, tr, fl, kn, nu, re, bf, lv, pl, eK, eV, eX, eY, hld, cf, sa, sb, sd, sk, sts, rg, msl, ga, gb, gd9, gk, gs, hoM, bgM, mm, dn, hlM, knM, mk, nuM, plM, reM, se, vK, vO, vW, Rm, Sm, dc, oc, pc, tk, al, tc, st, en, rt, fkn, ch, ets, nv, asl, vs, 0, chM, vals, bb, slM, va, fo, PI, hch, hP, hD, hS, lv_sub hl [0, 1, 2, 3, 4] rfl⟩
