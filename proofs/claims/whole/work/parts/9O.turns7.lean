set_option maxHeartbeats 4000000 in
set_option maxRecDepth 100000 in
theorem turn_poke {p : Program} {l : Launch} {e : Env} {s : State} {m : MethodId} {below : List Frame} {meth : Method} {c : Code} {D : va_G} {cI cZ cJ : ClassId} {h : Nat → Nat} {b L : Nat} {xs : Nat → Int32} {H : Heap} {locs : List Loc} {ls : Array Slot} {cells slots : Nat} {Q : State → Prop} {x4 : Int32} (F : lwF p l s m c D cI cZ cJ b L xs) (h1 : vp_in (x4 + 1) L) (h2 : vp_in (x4 + 2) L) (hcr : cells + 1 ≤ 601024 ∧ slots + 6 ≤ 7293034) (I : lwI s D cI cZ cJ h b x4 H locs ls)
    (kk : ∀ (H1 : Heap) (locs1 : List Loc) (ls1 : Array Slot), lwI s D cI cZ cJ h b x4 H1 locs1 ls1 → W p l e room_1 s m #[Value.ref b] below meth c H1 locs1 (cells + 1) (slots + 6) Q (F0 m 886 ls1 [])) : W p l e room_1 s m #[Value.ref b] below meth c H locs cells slots Q (F0 m 573 ls []) := by
  obtain ⟨S, hK, TR, hN, hX, hbl, hlt⟩ := F
  have hx := S.1
  have hb := S.2.1
  have hts := S.2.2.2.2
  have hA : ∀ q : Nat, s.heap.size ≤ q → lwA s q := fun _ h => h
  have hbA : ¬ lwA s b := Nat.not_le.mpr hbl
  obtain ⟨da, db, dd, dk, oa, ob, od, ok, pa, pb, pd, pk, ho, bg, me, tr, fl, kn, nu, re, bf, lv, pl, eK, eV, eX, eY, hld, cf, sa, sb, sd, sk, sts, rg, msl, ga, gb, gd9, gk, gs, hoM, bgM, mm, dn, hlM, knM, mk, nuM, plM, reM, se, vK, vO, vW, Rm, Sm, dc, oc, pc, tk, al, tc, st, en, rt, fkn, ch, ets, nv, asl, vs, tv, chM, vals, bb, slM, va, fo, PI, hch, hP, hD, hS, hl⟩ := I
  obtain ⟨k, bg', mm', bgM', g1, g2, PI'⟩ := sim_poke PI tv (xs (x4 + 1).toNatClampNeg) (xs (x4 + 2).toNatClampNeg)
  refine lv_aload_n hx hb dL_law_573 rfl (lv_at hl 1 rfl) ?_
  refine lv_aload_n hx hb dL_law_574 rfl (lv_at hl 0 rfl) ?_
  refine lv_iload hx hb dL_law_575 (lv_at hl 4 rfl) ?_
  refine lv_iconst (v := (1 : Int32)) hx hb dL_law_577 (by decide) ?_
  refine lv_iadd hx hb dL_law_578 ?_
  refine va_sld hx hb hX hbl hbA hS h1 dL_law_579 ?_
  refine lv_aload_n hx hb dL_law_580 rfl (lv_at hl 0 rfl) ?_
  refine lv_iload hx hb dL_law_581 (lv_at hl 4 rfl) ?_
  refine lv_iconst (v := (2 : Int32)) hx hb dL_law_583 (by decide) ?_
  refine lv_iadd hx hb dL_law_584 ?_
  refine va_sld hx hb hX hbl hbA hS h2 dL_law_585 ?_
  refine g_lawL (ww' := lwW h cI cZ cJ da db dd dk oa ob od ok pa pb pd pk ho bg' me tr fl kn nu re bf lv pl eK eV eX eY hld cf sa sb sd sk sts rg msl ga gb gd9 gk gs hoM bgM mm tr dn hlM knM mk nuM plM reM se vK vO vW Rm Sm dc oc pc tk al tc st en rt fkn ch ets nv asl vs tv tk al chM vals bb slM tc st en va fo) S (c_L_poke l hlt D cI cZ cJ (h 0) (h 1) (h 6) (h 11) (h 16) (h 18) (h 23) (h 29) (h 32) (h 41) (h 42) (h 43) (h 44) (h 45) (h 46) _ bg tk al tc st en rt (xs (x4 + 1).toNatClampNeg) (xs (x4 + 2).toNatClampNeg) _ g1) (vx_cwSW 3 hts gl_L_poke rfl rfl rfl (by decide +kernel) ⟨(Nat.le_of_ble_eq_true rfl), (Nat.le_of_ble_eq_true rfl)⟩) hK hP hD hS hA TR hN [0, 41, 42] [some 0, none, none, none, none, none, none, none, none, none, none, none, none, none, none, none, none, none, none, none, none, none, none, none, none, none, none, none, none, none, none, none, none, none, none, none, none, none, none, none, none, some 1, some 2, none, none, none, none, none, none, none, none, none, none, none, none, none, none, none, none, none, none, none, none, none, none, none, none, none, none, none, none] rfl (by decide) rfl rfl (by decide) rfl hl.1 rfl (Nat.le_of_ble_eq_true rfl) dL_law_586 hcr (fun H locs hP hD hS => ?_)
  refine lv_istore (lv' := [(5, .int k), (0, .ref b), (1, .ref (h 0)), (2, .ref (h 47)), (3, .ref (h 70)), (4, .int x4)]) hx hb dL_law_589 hl (by decide) rfl (fun ls hl => ?_)
  refine lv_aload_n hx hb dL_law_591 rfl (lv_at hl 3 rfl) ?_
  refine lv_aload_n hx hb dL_law_592 rfl (lv_at hl 1 rfl) ?_
  refine lv_iload hx hb dL_law_593 (lv_at hl 5 rfl) ?_
  refine lv_iconst (v := (1 : Int32)) hx hb dL_law_595 (by decide) ?_
  refine lv_iadd hx hb dL_law_596 ?_
  refine va_sld hx hb hX hbl hbA hS h1 dL_law_597 ?_
  refine lv_aload_n hx hb dL_law_598 rfl (lv_at hl 1 rfl) ?_
  refine lv_iload hx hb dL_law_599 (lv_at hl 5 rfl) ?_
  refine lv_iconst (v := (2 : Int32)) hx hb dL_law_601 (by decide) ?_
  refine lv_iadd hx hb dL_law_602 ?_
  refine va_sld hx hb hX hbl hbA hS h2 dL_law_603 ?_
  refine g_lawVv (ww' := lwW h cI cZ cJ da db dd dk oa ob od ok pa pb pd pk ho bg' me tr fl kn nu re bf lv pl eK eV eX eY hld cf sa sb sd sk sts rg msl ga gb gd9 gk gs hoM bgM' mm' tr dn hlM knM mk nuM plM reM se vK vO vW Rm Sm dc oc pc tk al tc st en rt fkn ch ets nv asl vs k tk al chM vals bb slM tc st en va fo) S (c_X9_poke l D cI cZ (h 47) (h 48) (h 49) (h 50) (h 51) (h 52) (h 53) (h 54) (h 55) (h 56) (h 57) (h 58) (h 59) (h 60) (h 61) (h 62) (h 63) (h 64) (h 65) (h 66) (h 67) (h 68) (h 69) _ mm bgM tv tk al chM vals bb slM tc st en va (xs (x4 + 1).toNatClampNeg) (xs (x4 + 2).toNatClampNeg) _ g2) (cwV 2 hts gl_X9_poke rfl rfl rfl (by decide +kernel) ⟨(Nat.le_of_ble_eq_true rfl), (Nat.le_of_ble_eq_true rfl)⟩) (hK.sub [0, 1] rfl) hP hD hS hA 47 (ci := 8) rfl rfl [47, 66, 65] [none, none, none, none, none, none, none, none, none, none, none, none, none, none, none, none, none, none, none, none, none, none, none, none, none, none, none, none, none, none, none, none, none, none, none, none, none, none, none, none, none, none, none, none, none, none, none, some 0, none, none, none, none, none, none, none, none, none, none, none, none, none, none, none, none, none, some 2, some 1, none, none, none, none] rfl (by decide) rfl rfl (by decide) rfl hl.1 rfl (Nat.le_of_ble_eq_true rfl) dL_law_604 hcr (fun H locs hP hD hS => ?_)
  refine lv_aload_n hx hb dL_law_607 rfl (lv_at hl 3 rfl) ?_
  refine g_lawVi (ww' := lwW h cI cZ cJ da db dd dk oa ob od ok pa pb pd pk ho bg' me tr fl kn nu re bf lv pl eK eV eX eY hld cf sa sb sd sk sts rg msl ga gb gd9 gk gs hoM bgM' mm' tr dn hlM knM mk nuM plM reM se vK vO vW Rm Sm dc oc pc tk al tc st en rt fkn ch ets nv asl vs k tk al chM vals bb slM tc st en va fo) S (c_X9_thrown l D cI cZ (h 47) (h 48) (h 49) (h 50) (h 51) (h 52) (h 53) (h 54) (h 55) (h 56) (h 57) (h 58) (h 59) (h 60) (h 61) (h 62) (h 63) (h 64) (h 65) (h 66) (h 67) (h 68) (h 69) _ k tk al chM vals bb slM tc st en va _ rfl) (cwV 0 hts gl_X9_thrown rfl rfl rfl (by decide +kernel) ⟨(Nat.le_of_ble_eq_true rfl), (Nat.le_of_ble_eq_true rfl)⟩) (hK.sub [0, 1] rfl) hP hD hS hA 47 (ci := 8) rfl rfl [47] [none, none, none, none, none, none, none, none, none, none, none, none, none, none, none, none, none, none, none, none, none, none, none, none, none, none, none, none, none, none, none, none, none, none, none, none, none, none, none, none, none, none, none, none, none, none, none, some 0, none, none, none, none, none, none, none, none, none, none, none, none, none, none, none, none, none, none, none, none, none, none, none] rfl (by decide) rfl rfl (by decide) rfl hl.1 rfl (Nat.le_of_ble_eq_true rfl) dL_law_608 hcr (fun H locs hP hD hS => ?_)
  refine lv_iload hx hb dL_law_611 (lv_at hl 0 rfl) ?_
  refine lv_icmp_eq (tgt := 618) hx hb dL_law_613 (by decide) (fun _ => ?_) (fun q => absurd rfl q)
  refine lv_goto (tgt := 886) hx hb dL_law_618 (by decide) ?_
  exact kk _ _ _ ⟨da, db, dd, dk, oa, ob, od, ok, pa, pb, pd, pk, ho, bg', me, tr, fl, kn, nu, re, bf, lv, pl, eK, eV, eX, eY, hld, cf, sa, sb, sd, sk, sts, rg, msl, ga, gb, gd9, gk, gs, hoM, bgM', mm', dn, hlM, knM, mk, nuM, plM, reM, se, vK, vO, vW, Rm, Sm, dc, oc, pc, tk, al, tc, st, en, rt, fkn, ch, ets, nv, asl, vs, k, chM, vals, bb, slM, va, fo, PI', hch, hP, hD, hS, lv_sub hl [1, 2, 3, 4, 5] rfl⟩

set_option maxHeartbeats 4000000 in
set_option maxRecDepth 100000 in
theorem turn_run {p : Program} {l : Launch} {e : Env} {s : State} {m : MethodId} {below : List Frame} {meth : Method} {c : Code} {D : va_G} {cI cZ cJ : ClassId} {h : Nat → Nat} {b L : Nat} {xs : Nat → Int32} {H : Heap} {locs : List Loc} {ls : Array Slot} {cells slots : Nat} {Q : State → Prop} {x4 : Int32} (F : lwF p l s m c D cI cZ cJ b L xs) (h1 : vp_in (x4 + 1) L) (h2 : vp_in (x4 + 2) L) (h3 : vp_in (x4 + 3) L) (z : Int32) (hz : ((xs (x4 + 1).toNatClampNeg) = 0 ∧ z = 0) ∨ (¬ (xs (x4 + 1).toNatClampNeg) = 0 ∧ z = 1)) (hcr : cells + 1 ≤ 601024 ∧ slots + 6 ≤ 7293034) (I : lwI s D cI cZ cJ h b x4 H locs ls)
    (kk : ∀ (H1 : Heap) (locs1 : List Loc) (ls1 : Array Slot), lwI s D cI cZ cJ h b x4 H1 locs1 ls1 → W p l e room_1 s m #[Value.ref b] below meth c H1 locs1 (cells + 1) (slots + 6) Q (F0 m 886 ls1 [])) : W p l e room_1 s m #[Value.ref b] below meth c H locs cells slots Q (F0 m 621 ls []) := by
  obtain ⟨S, hK, TR, hN, hX, hbl, hlt⟩ := F
  have hx := S.1
  have hb := S.2.1
  have hts := S.2.2.2.2
  have hA : ∀ q : Nat, s.heap.size ≤ q → lwA s q := fun _ h => h
  have hbA : ¬ lwA s b := Nat.not_le.mpr hbl
  obtain ⟨da, db, dd, dk, oa, ob, od, ok, pa, pb, pd, pk, ho, bg, me, tr, fl, kn, nu, re, bf, lv, pl, eK, eV, eX, eY, hld, cf, sa, sb, sd, sk, sts, rg, msl, ga, gb, gd9, gk, gs, hoM, bgM, mm, dn, hlM, knM, mk, nuM, plM, reM, se, vK, vO, vW, Rm, Sm, dc, oc, pc, tk, al, tc, st, en, rt, fkn, ch, ets, nv, asl, vs, tv, chM, vals, bb, slM, va, fo, PI, hch, hP, hD, hS, hl⟩ := I
  obtain ⟨k, fo', me', rg', msl', tr', tc', st', en', rt', rb, mm', Rm', Sm', va', g1, g2, hans, PI'⟩ := sim_run (n := 1000) (rg := rg) (sl := msl) (tr := tr) (Rm := Rm) (Sm := Sm) (st := st) (by omega) PI fo tv z (xs (x4 + 2).toNatClampNeg) (xs (x4 + 3).toNatClampNeg)
  refine lv_aload_n hx hb dL_law_621 rfl (lv_at hl 1 rfl) ?_
  refine lv_aload_n hx hb dL_law_622 rfl (lv_at hl 0 rfl) ?_
  refine lv_iload hx hb dL_law_623 (lv_at hl 4 rfl) ?_
  refine lv_iconst (v := (1 : Int32)) hx hb dL_law_625 (by decide) ?_
  refine lv_iadd hx hb dL_law_626 ?_
  refine va_sld hx hb hX hbl hbA hS h1 dL_law_627 ?_
  have mid636 : W p l e room_1 s m #[Value.ref b] below meth c H locs cells slots Q (F0 m 636 ls [.int z, .ref (h 0)]) := by
    refine lv_aload_n hx hb dL_law_636 rfl (lv_at hl 0 rfl) ?_
    refine lv_iload hx hb dL_law_637 (lv_at hl 4 rfl) ?_
    refine lv_iconst (v := (2 : Int32)) hx hb dL_law_639 (by decide) ?_
    refine lv_iadd hx hb dL_law_640 ?_
    refine va_sld hx hb hX hbl hbA hS h2 dL_law_641 ?_
    refine lv_aload_n hx hb dL_law_642 rfl (lv_at hl 0 rfl) ?_
    refine lv_iload hx hb dL_law_643 (lv_at hl 4 rfl) ?_
    refine lv_iconst (v := (3 : Int32)) hx hb dL_law_645 (by decide) ?_
    refine lv_iadd hx hb dL_law_646 ?_
    refine va_sld hx hb hX hbl hbA hS h3 dL_law_647 ?_
    refine lv_aload_n hx hb dL_law_648 rfl (lv_at hl 3 rfl) ?_
    refine g_lawL (ww' := lwW h cI cZ cJ da db dd dk oa ob od ok pa pb pd pk ho bg me' tr' fl kn nu re bf lv pl eK eV eX eY hld cf sa sb sd sk sts rg' msl' ga gb gd9 gk gs hoM bgM mm tr dn hlM knM mk nuM plM reM se vK vO vW Rm Sm dc oc pc tk al tc' st' en' rt' fkn ch ets nv asl vs tv tk al chM vals bb slM tc st en va fo') S (c_L_run l hlt D cI cZ cJ (h 0) (h 1) (h 6) (h 11) (h 16) (h 18) (h 23) (h 29) (h 32) (h 41) (h 42) (h 43) (h 44) (h 45) (h 46) (h 7) (h 8) (h 9) (h 10) (h 12) (h 13) (h 14) (h 15) (h 70) _ 24 96 bg me rg msl tr oa ob od ok pa pb pd pk tk al tc st en rt oc pc fo 1000 z (xs (x4 + 2).toNatClampNeg) (xs (x4 + 3).toNatClampNeg) _ g1) (vx_cwSW 5 hts gl_L_run rfl rfl rfl (by decide +kernel) ⟨(Nat.le_of_ble_eq_true rfl), (Nat.le_of_ble_eq_true rfl)⟩) hK hP hD hS hA TR hN [0, 41, 42, 43, 45, 46, 44, 6, 9, 10, 8, 7, 11, 14, 15, 13, 12, 70] [some 0, none, none, none, none, none, some 7, some 11, some 10, some 8, some 9, some 12, some 16, some 15, some 13, some 14, none, none, none, none, none, none, none, none, none, none, none, none, none, none, none, none, none, none, none, none, none, none, none, none, none, some 1, some 2, some 3, some 6, some 4, some 5, none, none, none, none, none, none, none, none, none, none, none, none, none, none, none, none, none, none, none, none, none, none, none, some 17] rfl (by decide) rfl rfl (by decide) rfl hl.1 rfl (Nat.le_of_ble_eq_true rfl) dL_law_649 hcr (fun H locs hP hD hS => ?_)
    refine lv_istore (lv' := [(5, .int k), (0, .ref b), (1, .ref (h 0)), (2, .ref (h 47)), (3, .ref (h 70)), (4, .int x4)]) hx hb dL_law_652 hl (by decide) rfl (fun ls hl => ?_)
    refine lv_aload_n hx hb dL_law_654 rfl (lv_at hl 3 rfl) ?_
    refine lv_aload_n hx hb dL_law_655 rfl (lv_at hl 1 rfl) ?_
    refine lv_iload hx hb dL_law_656 (lv_at hl 5 rfl) ?_
    refine lv_iconst (v := (1 : Int32)) hx hb dL_law_658 (by decide) ?_
    refine lv_iadd hx hb dL_law_659 ?_
    refine va_sld hx hb hX hbl hbA hS h1 dL_law_660 ?_
    have mid669 : W p l e room_1 s m #[Value.ref b] below meth c H locs (cells + 1) (slots + 6) Q (F0 m 669 ls [.int z, .ref (h 47)]) := by
      refine lv_aload_n hx hb dL_law_669 rfl (lv_at hl 1 rfl) ?_
      refine lv_iload hx hb dL_law_670 (lv_at hl 5 rfl) ?_
      refine lv_iconst (v := (2 : Int32)) hx hb dL_law_672 (by decide) ?_
      refine lv_iadd hx hb dL_law_673 ?_
      refine va_sld hx hb hX hbl hbA hS h2 dL_law_674 ?_
      refine lv_aload_n hx hb dL_law_675 rfl (lv_at hl 1 rfl) ?_
      refine lv_iload hx hb dL_law_676 (lv_at hl 5 rfl) ?_
      refine lv_iconst (v := (3 : Int32)) hx hb dL_law_678 (by decide) ?_
      refine lv_iadd hx hb dL_law_679 ?_
      refine va_sld hx hb hX hbl hbA hS h3 dL_law_680 ?_
      refine g_lawVi (ww' := lwW h cI cZ cJ da db dd dk oa ob od ok pa pb pd pk ho bg me' tr' fl kn nu re bf lv pl eK eV eX eY hld cf sa sb sd sk sts rg' msl' ga gb gd9 gk gs hoM bgM mm' tr' dn hlM knM mk nuM plM reM se vK vO vW Rm' Sm' dc oc pc tk al tc' st' en' rt' fkn ch ets nv asl vs k tk al chM vals bb slM tc' st' en' va' fo') S (c_X9_run l D cI cZ (h 47) (h 48) (h 49) (h 50) (h 51) (h 52) (h 53) (h 54) (h 55) (h 56) (h 57) (h 58) (h 59) (h 60) (h 61) (h 62) (h 63) (h 64) (h 65) (h 66) (h 67) (h 68) (h 69) _ ga gb gd9 gk mm Rm Sm bgM tr tv tk al chM vals bb slM tc st en va 1000 z (xs (x4 + 2).toNatClampNeg) (xs (x4 + 3).toNatClampNeg) _ g2) (cwV 3 hts gl_X9_run rfl rfl rfl (by decide +kernel) ⟨(Nat.le_of_ble_eq_true rfl), (Nat.le_of_ble_eq_true rfl)⟩) (hK.sub [0, 1] rfl) hP hD hS hA 47 (ci := 8) rfl rfl [47, 51, 52, 50, 49, 66, 67, 68, 65, 69] [none, none, none, none, none, none, none, none, none, none, none, none, none, none, none, none, none, none, none, none, none, none, none, none, none, none, none, none, none, none, none, none, none, none, none, none, none, none, none, none, none, none, none, none, none, none, none, some 0, none, some 4, some 3, some 1, some 2, none, none, none, none, none, none, none, none, none, none, none, none, some 8, some 5, some 6, some 7, some 9, none] rfl (by decide) rfl rfl (by decide) rfl hl.1 rfl (Nat.le_of_ble_eq_true rfl) dL_law_681 hcr (fun H locs hP hD hS => ?_)
      refine lv_istore (lv' := [(6, .int rb), (5, .int k), (0, .ref b), (1, .ref (h 0)), (2, .ref (h 47)), (3, .ref (h 70)), (4, .int x4)]) hx hb dL_law_684 hl (by decide) rfl (fun ls hl => ?_)
      refine lv_aload_n hx hb dL_law_686 rfl (lv_at hl 4 rfl) ?_
      refine g_lawVi (ww' := lwW h cI cZ cJ da db dd dk oa ob od ok pa pb pd pk ho bg me' tr' fl kn nu re bf lv pl eK eV eX eY hld cf sa sb sd sk sts rg' msl' ga gb gd9 gk gs hoM bgM mm' tr' dn hlM knM mk nuM plM reM se vK vO vW Rm' Sm' dc oc pc tk al tc' st' en' rt' fkn ch ets nv asl vs k tk al chM vals bb slM tc' st' en' va' fo') S (c_X9_thrown l D cI cZ (h 47) (h 48) (h 49) (h 50) (h 51) (h 52) (h 53) (h 54) (h 55) (h 56) (h 57) (h 58) (h 59) (h 60) (h 61) (h 62) (h 63) (h 64) (h 65) (h 66) (h 67) (h 68) (h 69) _ k tk al chM vals bb slM tc' st' en' va' _ rfl) (cwV 0 hts gl_X9_thrown rfl rfl rfl (by decide +kernel) ⟨(Nat.le_of_ble_eq_true rfl), (Nat.le_of_ble_eq_true rfl)⟩) (hK.sub [0, 1] rfl) hP hD hS hA 47 (ci := 8) rfl rfl [47] [none, none, none, none, none, none, none, none, none, none, none, none, none, none, none, none, none, none, none, none, none, none, none, none, none, none, none, none, none, none, none, none, none, none, none, none, none, none, none, none, none, none, none, none, none, none, none, some 0, none, none, none, none, none, none, none, none, none, none, none, none, none, none, none, none, none, none, none, none, none, none, none] rfl (by decide) rfl rfl (by decide) rfl hl.1 rfl (Nat.le_of_ble_eq_true rfl) dL_law_687 hcr (fun H locs hP hD hS => ?_)
      refine lv_iload hx hb dL_law_690 (lv_at hl 1 rfl) ?_
      refine lv_icmp_eq (tgt := 697) hx hb dL_law_692 (by decide) (fun _ => ?_) (fun q => absurd rfl q)
      refine lv_iload hx hb dL_law_697 (lv_at hl 1 rfl) ?_
      have fin : W p l e room_1 s m #[Value.ref b] below meth c H locs (cells + 1) (slots + 6) Q (F0 m 714 ls []) := by
        refine lv_goto (tgt := 886) hx hb dL_law_714 (by decide) ?_
        exact kk _ _ _ ⟨da, db, dd, dk, oa, ob, od, ok, pa, pb, pd, pk, ho, bg, me', tr', fl, kn, nu, re, bf, lv, pl, eK, eV, eX, eY, hld, cf, sa, sb, sd, sk, sts, rg', msl', ga, gb, gd9, gk, gs, hoM, bgM, mm', dn, hlM, knM, mk, nuM, plM, reM, se, vK, vO, vW, Rm', Sm', dc, oc, pc, tk, al, tc', st', en', rt', fkn, ch, ets, nv, asl, vs, k, chM, vals, bb, slM, va', fo', PI', hch, hP, hD, hS, lv_sub hl [2, 3, 4, 5, 6] rfl⟩
      refine lv_if_ne (tgt := 714) hx hb dL_law_699 (by decide) (fun _ => fin) (fun k0 => ?_)
      refine lv_aload_n hx hb dL_law_702 rfl (lv_at hl 5 rfl) ?_
      refine lv_iconst (v := (0 : Int32)) hx hb dL_law_703 (by decide) ?_
      refine va_lald hx hb hK hP 70 2 rfl rfl (show vp_in 0 1 by unfold vp_in; decide) dL_law_704 ?_
      refine lv_iload hx hb dL_law_705 (lv_at hl 0 rfl) ?_
      refine lv_i2l (v := rb.toInt64) hx hb dL_law_707 rfl ?_
      refine W.lcmp hx hb dL_law_708 ?_
      exact lv_if_eq (tgt := 714) hx hb dL_law_709 (by decide) (fun _ => fin) (fun q => absurd (by rw [show (0 : Int32).toNatClampNeg = 0 from rfl, hans k0]; exact lg_cmp_self _) q)
    rcases hz with ⟨q, rfl⟩ | ⟨q, rfl⟩
    · refine lv_if_eq (tgt := 668) hx hb dL_law_661 (by decide) (fun _ => ?_) (fun r => absurd q r)
      exact lv_iconst (v := (0 : Int32)) hx hb dL_law_668 (by decide) mid669
    · refine lv_if_eq (tgt := 668) hx hb dL_law_661 (by decide) (fun r => absurd r q) (fun _ => ?_)
      refine lv_iconst (v := (1 : Int32)) hx hb dL_law_664 (by decide) ?_
      exact lv_goto (tgt := 669) hx hb dL_law_665 (by decide) mid669
  rcases hz with ⟨q, rfl⟩ | ⟨q, rfl⟩
  · refine lv_if_eq (tgt := 635) hx hb dL_law_628 (by decide) (fun _ => ?_) (fun r => absurd q r)
    exact lv_iconst (v := (0 : Int32)) hx hb dL_law_635 (by decide) mid636
  · refine lv_if_eq (tgt := 635) hx hb dL_law_628 (by decide) (fun r => absurd r q) (fun _ => ?_)
    refine lv_iconst (v := (1 : Int32)) hx hb dL_law_631 (by decide) ?_
    exact lv_goto (tgt := 636) hx hb dL_law_632 (by decide) mid636
