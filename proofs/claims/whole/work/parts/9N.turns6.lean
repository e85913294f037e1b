set_option maxHeartbeats 4000000 in
set_option maxRecDepth 100000 in
theorem turn_length {p : Program} {l : Launch} {e : Env} {s : State} {m : MethodId} {below : List Frame} {meth : Method} {c : Code} {D : va_G} {cI cZ cJ : ClassId} {h : Nat → Nat} {b L : Nat} {xs : Nat → Int32} {H : Heap} {locs : List Loc} {ls : Array Slot} {cells slots : Nat} {Q : State → Prop} {x4 : Int32} (F : lwF p l s m c D cI cZ cJ b L xs) (h1 : vp_in (x4 + 1) L) (z : Int32) (hz : ((xs (x4 + 1).toNatClampNeg) = 0 ∧ z = 0) ∨ (¬ (xs (x4 + 1).toNatClampNeg) = 0 ∧ z = 1)) (hcr : cells + 1 ≤ 601024 ∧ slots + 6 ≤ 7293034) (I : lwI s D cI cZ cJ h b x4 H locs ls)
    (kk : ∀ (H1 : Heap) (locs1 : List Loc) (ls1 : Array Slot), lwI s D cI cZ cJ h b x4 H1 locs1 ls1 → W p l e room_1 s m #[Value.ref b] below meth c H1 locs1 (cells + 1) (slots + 6) Q (F0 m 886 ls1 [])) : W p l e room_1 s m #[Value.ref b] below meth c H locs cells slots Q (F0 m 436 ls []) := by
  obtain ⟨S, hK, TR, hN, hX, hbl, hlt⟩ := F
  have hx := S.1
  have hb := S.2.1
  have hts := S.2.2.2.2
  have hA : ∀ q : Nat, s.heap.size ≤ q → lwA s q := fun _ h => h
  have hbA : ¬ lwA s b := Nat.not_le.mpr hbl
  obtain ⟨da, db, dd, dk, oa, ob, od, ok, pa, pb, pd, pk, ho, bg, me, tr, fl, kn, nu, re, bf, lv, pl, eK, eV, eX, eY, hld, cf, sa, sb, sd, sk, sts, rg, msl, ga, gb, gd9, gk, gs, hoM, bgM, mm, dn, hlM, knM, mk, nuM, plM, reM, se, vK, vO, vW, Rm, Sm, dc, oc, pc, tk, al, tc, st, en, rt, fkn, ch, ets, nv, asl, vs, tv, chM, vals, bb, slM, va, fo, PI, hch, hP, hD, hS, hl⟩ := I
  obtain ⟨rb, g1, g2⟩ := sim_length PI tv z
  refine W.widen (k := cells + 1) (n := slots + 6) (Nat.le_add_right _ _) (Nat.le_add_right _ _) ?_
  refine lv_aload_n hx hb dL_law_436 rfl (lv_at hl 1 rfl) ?_
  refine lv_aload_n hx hb dL_law_437 rfl (lv_at hl 0 rfl) ?_
  refine lv_iload hx hb dL_law_438 (lv_at hl 4 rfl) ?_
  refine lv_iconst (v := (1 : Int32)) hx hb dL_law_440 (by decide) ?_
  refine lv_iadd hx hb dL_law_441 ?_
  refine va_sld hx hb hX hbl hbA hS h1 dL_law_442 ?_
  have mid451 : W p l e room_1 s m #[Value.ref b] below meth c H locs (cells + 1) (slots + 6) Q (F0 m 451 ls [.int z, .ref (h 0)]) := by
    refine g_lawVi (ww' := lwW h cI cZ cJ da db dd dk oa ob od ok pa pb pd pk ho bg me tr fl kn nu re bf lv pl eK eV eX eY hld cf sa sb sd sk sts rg msl ga gb gd9 gk gs hoM bgM mm tr dn hlM knM mk nuM plM reM se vK vO vW Rm Sm dc oc pc tk al tc st en rt fkn ch ets nv asl vs tv tk al chM vals bb slM tc st en va fo) S (c_X8_length l D cI cZ (h 0) (h 1) (h 6) (h 11) (h 16) (h 18) (h 23) (h 29) (h 32) (h 41) (h 7) (h 8) (h 9) (h 10) (h 12) (h 13) (h 14) (h 15) _ tk al oc pc z _ g1) (cwV 1 hts gl_X8_length rfl rfl rfl (by decide +kernel) ⟨(Nat.le_of_ble_eq_true rfl), (Nat.le_of_ble_eq_true rfl)⟩) (hK.sub [0, 1] rfl) hP hD hS hA 0 (ci := 7) rfl rfl [0, 6, 11] [some 0, none, none, none, none, none, some 1, none, none, none, none, some 2, none, none, none, none, none, none, none, none, none, none, none, none, none, none, none, none, none, none, none, none, none, none, none, none, none, none, none, none, none, none, none, none, none, none, none, none, none, none, none, none, none, none, none, none, none, none, none, none, none, none, none, none, none, none, none, none, none, none, none] rfl (by decide) rfl rfl (by decide) rfl hl.1 rfl (Nat.le_of_ble_eq_true rfl) dL_law_451 hcr (fun H locs hP hD hS => ?_)
    refine lv_aload_n hx hb dL_law_454 rfl (lv_at hl 2 rfl) ?_
    refine lv_aload_n hx hb dL_law_455 rfl (lv_at hl 0 rfl) ?_
    refine lv_iload hx hb dL_law_456 (lv_at hl 4 rfl) ?_
    refine lv_iconst (v := (1 : Int32)) hx hb dL_law_458 (by decide) ?_
    refine lv_iadd hx hb dL_law_459 ?_
    refine va_sld hx hb hX hbl hbA hS h1 dL_law_460 ?_
    have mid469 : W p l e room_1 s m #[Value.ref b] below meth c H locs (cells + 1) (slots + 6) Q (F0 m 469 ls [.int z, .ref (h 47), .int rb]) := by
      refine g_lawVi (ww' := lwW h cI cZ cJ da db dd dk oa ob od ok pa pb pd pk ho bg me tr fl kn nu re bf lv pl eK eV eX eY hld cf sa sb sd sk sts rg msl ga gb gd9 gk gs hoM bgM mm tr dn hlM knM mk nuM plM reM se vK vO vW Rm Sm dc oc pc tk al tc st en rt fkn ch ets nv asl vs 0 tk al chM vals bb slM tc st en va fo) S (c_X9_length l D cI cZ (h 47) (h 48) (h 49) (h 50) (h 51) (h 52) (h 53) (h 54) (h 55) (h 56) (h 57) (h 58) (h 59) (h 60) (h 61) (h 62) (h 63) (h 64) (h 65) (h 66) (h 67) (h 68) (h 69) _ gs tv tk al chM vals bb slM tc st en va z _ g2) (cwV 1 hts gl_X9_length rfl rfl rfl (by decide +kernel) ⟨(Nat.le_of_ble_eq_true rfl), (Nat.le_of_ble_eq_true rfl)⟩) (hK.sub [0, 1] rfl) hP hD hS hA 47 (ci := 8) rfl rfl [47, 48] [none, none, none, none, none, none, none, none, none, none, none, none, none, none, none, none, none, none, none, none, none, none, none, none, none, none, none, none, none, none, none, none, none, none, none, none, none, none, none, none, none, none, none, none, none, none, none, some 0, some 1, none, none, none, none, none, none, none, none, none, none, none, none, none, none, none, none, none, none, none, none, none, none] rfl (by decide) rfl rfl (by decide) rfl hl.1 rfl (Nat.le_of_ble_eq_true rfl) dL_law_469 hcr (fun H locs hP hD hS => ?_)
      refine lv_icmp_eq (tgt := 886) hx hb dL_law_472 (by decide) (fun _ => ?_) (fun q => absurd rfl q)
      exact kk _ _ _ ⟨da, db, dd, dk, oa, ob, od, ok, pa, pb, pd, pk, ho, bg, me, tr, fl, kn, nu, re, bf, lv, pl, eK, eV, eX, eY, hld, cf, sa, sb, sd, sk, sts, rg, msl, ga, gb, gd9, gk, gs, hoM, bgM, mm, dn, hlM, knM, mk, nuM, plM, reM, se, vK, vO, vW, Rm, Sm, dc, oc, pc, tk, al, tc, st, en, rt, fkn, ch, ets, nv, asl, vs, 0, chM, vals, bb, slM, va, fo, PI, hch, hP, hD, hS, lv_sub hl [0, 1, 2, 3, 4] rfl⟩
    rcases hz with ⟨q, rfl⟩ | ⟨q, rfl⟩
    · refine lv_if_eq (tgt := 468) hx hb dL_law_461 (by decide) (fun _ => ?_) (fun r => absurd q r)
      exact lv_iconst (v := (0 : Int32)) hx hb dL_law_468 (by decide) mid469
    · refine lv_if_eq (tgt := 468) hx hb dL_law_461 (by decide) (fun r => absurd r q) (fun _ => ?_)
      refine lv_iconst (v := (1 : Int32)) hx hb dL_law_464 (by decide) ?_
      exact lv_goto (tgt := 469) hx hb dL_law_465 (by decide) mid469
  rcases hz with ⟨q, rfl⟩ | ⟨q, rfl⟩
  · refine lv_if_eq (tgt := 450) hx hb dL_law_443 (by decide) (fun _ => ?_) (fun r => absurd q r)
    exact lv_iconst (v := (0 : Int32)) hx hb dL_law_450 (by decide) mid451
  · refine lv_if_eq (tgt := 450) hx hb dL_law_443 (by decide) (fun r => absurd r q) (fun _ => ?_)
    refine lv_iconst (v := (1 : Int32)) hx hb dL_law_446 (by decide) ?_
    exact lv_goto (tgt := 451) hx hb dL_law_447 (by decide) mid451

set_option maxHeartbeats 4000000 in
set_option maxRecDepth 100000 in
theorem turn_look {p : Program} {l : Launch} {e : Env} {s : State} {m : MethodId} {below : List Frame} {meth : Method} {c : Code} {D : va_G} {cI cZ cJ : ClassId} {h : Nat → Nat} {b L : Nat} {xs : Nat → Int32} {H : Heap} {locs : List Loc} {ls : Array Slot} {cells slots : Nat} {Q : State → Prop} {x4 : Int32} (F : lwF p l s m c D cI cZ cJ b L xs) (h1 : vp_in (x4 + 1) L) (h2 : vp_in (x4 + 2) L) (h3 : vp_in (x4 + 3) L) (z : Int32) (hz : ((xs (x4 + 1).toNatClampNeg) = 0 ∧ z = 0) ∨ (¬ (xs (x4 + 1).toNatClampNeg) = 0 ∧ z = 1)) (hcr : cells + 1 ≤ 601024 ∧ slots + 6 ≤ 7293034) (I : lwI s D cI cZ cJ h b x4 H locs ls)
    (kk : ∀ (H1 : Heap) (locs1 : List Loc) (ls1 : Array Slot), lwI s D cI cZ cJ h b x4 H1 locs1 ls1 → W p l e room_1 s m #[Value.ref b] below meth c H1 locs1 (cells + 1) (slots + 6) Q (F0 m 886 ls1 [])) : W p l e room_1 s m #[Value.ref b] below meth c H locs cells slots Q (F0 m 477 ls []) := by
  obtain ⟨S, hK, TR, hN, hX, hbl, hlt⟩ := F
  have hx := S.1
  have hb := S.2.1
  have hts := S.2.2.2.2
  have hA : ∀ q : Nat, s.heap.size ≤ q → lwA s q := fun _ h => h
  have hbA : ¬ lwA s b := Nat.not_le.mpr hbl
  obtain ⟨da, db, dd, dk, oa, ob, od, ok, pa, pb, pd, pk, ho, bg, me, tr, fl, kn, nu, re, bf, lv, pl, eK, eV, eX, eY, hld, cf, sa, sb, sd, sk, sts, rg, msl, ga, gb, gd9, gk, gs, hoM, bgM, mm, dn, hlM, knM, mk, nuM, plM, reM, se, vK, vO, vW, Rm, Sm, dc, oc, pc, tk, al, tc, st, en, rt, fkn, ch, ets, nv, asl, vs, tv, chM, vals, bb, slM, va, fo, PI, hch, hP, hD, hS, hl⟩ := I
  obtain ⟨k, fo', rb, g1, g2, hans⟩ := sim_look PI fo tv z (xs (x4 + 2).toNatClampNeg) (xs (x4 + 3).toNatClampNeg)
  refine lv_aload_n hx hb dL_law_477 rfl (lv_at hl 1 rfl) ?_
  refine lv_aload_n hx hb dL_law_478 rfl (lv_at hl 0 rfl) ?_
  refine lv_iload hx hb dL_law_479 (lv_at hl 4 rfl) ?_
  refine lv_iconst (v := (1 : Int32)) hx hb dL_law_481 (by decide) ?_
  refine lv_iadd hx hb dL_law_482 ?_
  refine va_sld hx hb hX hbl hbA hS h1 dL_law_483 ?_
  have mid492 : W p l e room_1 s m #[Value.ref b] below meth c H locs cells slots Q (F0 m 492 ls [.int z, .ref (h 0)]) := by
    refine lv_aload_n hx hb dL_law_492 rfl (lv_at hl 0 rfl) ?_
    refine lv_iload hx hb dL_law_493 (lv_at hl 4 rfl) ?_
    refine lv_iconst (v := (2 : Int32)) hx hb dL_law_495 (by decide) ?_
    refine lv_iadd hx hb dL_law_496 ?_
    refine va_sld hx hb hX hbl hbA hS h2 dL_law_497 ?_
    refine lv_aload_n hx hb dL_law_498 rfl (lv_at hl 0 rfl) ?_
    refine lv_iload hx hb dL_law_499 (lv_at hl 4 rfl) ?_
    refine lv_iconst (v := (3 : Int32)) hx hb dL_law_501 (by decide) ?_
    refine lv_iadd hx hb dL_law_502 ?_
    refine va_sld hx hb hX hbl hbA hS h3 dL_law_503 ?_
    refine lv_aload_n hx hb dL_law_504 rfl (lv_at hl 3 rfl) ?_
    refine g_lawL (ww' := lwW h cI cZ cJ da db dd dk oa ob od ok pa pb pd pk ho bg me tr fl kn nu re bf lv pl eK eV eX eY hld cf sa sb sd sk sts rg msl ga gb gd9 gk gs hoM bgM mm tr dn hlM knM mk nuM plM reM se vK vO vW Rm Sm dc oc pc tk al tc st en rt fkn ch ets nv asl vs tv tk al chM vals bb slM tc st en va fo') S (c_L_look l hlt D cI cZ cJ (h 0) (h 1) (h 6) (h 11) (h 16) (h 18) (h 23) (h 29) (h 32) (h 41) (h 7) (h 8) (h 9) (h 10) (h 12) (h 13) (h 14) (h 15) (h 70) _ 24 96 oa ob od ok pa pb pd pk tk al oc pc fo z (xs (x4 + 2).toNatClampNeg) (xs (x4 + 3).toNatClampNeg) _ g1) (vx_cwSW 5 hts gl_L_look rfl rfl rfl (by decide +kernel) ⟨(Nat.le_of_ble_eq_true rfl), (Nat.le_of_ble_eq_true rfl)⟩) hK hP hD hS hA TR hN [0, 6, 9, 10, 8, 7, 11, 14, 15, 13, 12, 70] [some 0, none, none, none, none, none, some 1, some 5, some 4, some 2, some 3, some 6, some 10, some 9, some 7, some 8, none, none, none, none, none, none, none, none, none, none, none, none, none, none, none, none, none, none, none, none, none, none, none, none, none, none, none, none, none, none, none, none, none, none, none, none, none, none, none, none, none, none, none, none, none, none, none, none, none, none, none, none, none, none, some 11] rfl (by decide) rfl rfl (by decide) rfl hl.1 rfl (Nat.le_of_ble_eq_true rfl) dL_law_505 hcr (fun H locs hP hD hS => ?_)
    refine lv_istore (lv' := [(5, .int k), (0, .ref b), (1, .ref (h 0)), (2, .ref (h 47)), (3, .ref (h 70)), (4, .int x4)]) hx hb dL_law_508 hl (by decide) rfl (fun ls hl => ?_)
    refine lv_aload_n hx hb dL_law_510 rfl (lv_at hl 3 rfl) ?_
    refine lv_aload_n hx hb dL_law_511 rfl (lv_at hl 1 rfl) ?_
    refine lv_iload hx hb dL_law_512 (lv_at hl 5 rfl) ?_
    refine lv_iconst (v := (1 : Int32)) hx hb dL_law_514 (by decide) ?_
    refine lv_iadd hx hb dL_law_515 ?_
    refine va_sld hx hb hX hbl hbA hS h1 dL_law_516 ?_
    have mid525 : W p l e room_1 s m #[Value.ref b] below meth c H locs (cells + 1) (slots + 6) Q (F0 m 525 ls [.int z, .ref (h 47)]) := by
      refine lv_aload_n hx hb dL_law_525 rfl (lv_at hl 1 rfl) ?_
      refine lv_iload hx hb dL_law_526 (lv_at hl 5 rfl) ?_
      refine lv_iconst (v := (2 : Int32)) hx hb dL_law_528 (by decide) ?_
      refine lv_iadd hx hb dL_law_529 ?_
      refine va_sld hx hb hX hbl hbA hS h2 dL_law_530 ?_
      refine lv_aload_n hx hb dL_law_531 rfl (lv_at hl 1 rfl) ?_
      refine lv_iload hx hb dL_law_532 (lv_at hl 5 rfl) ?_
      refine lv_iconst (v := (3 : Int32)) hx hb dL_law_534 (by decide) ?_
      refine lv_iadd hx hb dL_law_535 ?_
      refine va_sld hx hb hX hbl hbA hS h3 dL_law_536 ?_
      refine g_lawVi (ww' := lwW h cI cZ cJ da db dd dk oa ob od ok pa pb pd pk ho bg me tr fl kn nu re bf lv pl eK eV eX eY hld cf sa sb sd sk sts rg msl ga gb gd9 gk gs hoM bgM mm tr dn hlM knM mk nuM plM reM se vK vO vW Rm Sm dc oc pc tk al tc st en rt fkn ch ets nv asl vs k tk al chM vals bb slM tc st en va fo') S (c_X9_look l D cI cZ (h 47) (h 48) (h 49) (h 50) (h 51) (h 52) (h 53) (h 54) (h 55) (h 56) (h 57) (h 58) (h 59) (h 60) (h 61) (h 62) (h 63) (h 64) (h 65) (h 66) (h 67) (h 68) (h 69) _ ga gb gd9 gk gs tv tk al chM vals bb slM tc st en va z (xs (x4 + 2).toNatClampNeg) (xs (x4 + 3).toNatClampNeg) _ g2) (cwV 3 hts gl_X9_look rfl rfl rfl (by decide +kernel) ⟨(Nat.le_of_ble_eq_true rfl), (Nat.le_of_ble_eq_true rfl)⟩) (hK.sub [0, 1] rfl) hP hD hS hA 47 (ci := 8) rfl rfl [47, 51, 52, 50, 49, 48] [none, none, none, none, none, none, none, none, none, none, none, none, none, none, none, none, none, none, none, none, none, none, none, none, none, none, none, none, none, none, none, none, none, none, none, none, none, none, none, none, none, none, none, none, none, none, none, some 0, some 5, some 4, some 3, some 1, some 2, none, none, none, none, none, none, none, none, none, none, none, none, none, none, none, none, none, none] rfl (by decide) rfl rfl (by decide) rfl hl.1 rfl (Nat.le_of_ble_eq_true rfl) dL_law_537 hcr (fun H locs hP hD hS => ?_)
      refine lv_istore (lv' := [(6, .int rb), (5, .int k), (0, .ref b), (1, .ref (h 0)), (2, .ref (h 47)), (3, .ref (h 70)), (4, .int x4)]) hx hb dL_law_540 hl (by decide) rfl (fun ls hl => ?_)
      refine lv_aload_n hx hb dL_law_542 rfl (lv_at hl 4 rfl) ?_
      refine g_lawVi (ww' := lwW h cI cZ cJ da db dd dk oa ob od ok pa pb pd pk ho bg me tr fl kn nu re bf lv pl eK eV eX eY hld cf sa sb sd sk sts rg msl ga gb gd9 gk gs hoM bgM mm tr dn hlM knM mk nuM plM reM se vK vO vW Rm Sm dc oc pc tk al tc st en rt fkn ch ets nv asl vs k tk al chM vals bb slM tc st en va fo') S (c_X9_thrown l D cI cZ (h 47) (h 48) (h 49) (h 50) (h 51) (h 52) (h 53) (h 54) (h 55) (h 56) (h 57) (h 58) (h 59) (h 60) (h 61) (h 62) (h 63) (h 64) (h 65) (h 66) (h 67) (h 68) (h 69) _ k tk al chM vals bb slM tc st en va _ rfl) (cwV 0 hts gl_X9_thrown rfl rfl rfl (by decide +kernel) ⟨(Nat.le_of_ble_eq_true rfl), (Nat.le_of_ble_eq_true rfl)⟩) (hK.sub [0, 1] rfl) hP hD hS hA 47 (ci := 8) rfl rfl [47] [none, none, none, none, none, none, none, none, none, none, none, none, none, none, none, none, none, none, none, none, none, none, none, none, none, none, none, none, none, none, none, none, none, none, none, none, none, none, none, none, none, none, none, none, none, none, none, some 0, none, none, none, none, none, none, none, none, none, none, none, none, none, none, none, none, none, none, none, none, none, none, none] rfl (by decide) rfl rfl (by decide) rfl hl.1 rfl (Nat.le_of_ble_eq_true rfl) dL_law_543 hcr (fun H locs hP hD hS => ?_)
      refine lv_iload hx hb dL_law_546 (lv_at hl 1 rfl) ?_
      refine lv_icmp_eq (tgt := 553) hx hb dL_law_548 (by decide) (fun _ => ?_) (fun q => absurd rfl q)
      refine lv_iload hx hb dL_law_553 (lv_at hl 1 rfl) ?_
      have fin : W p l e room_1 s m #[Value.ref b] below meth c H locs (cells + 1) (slots + 6) Q (F0 m 570 ls []) := by
        refine lv_goto (tgt := 886) hx hb dL_law_570 (by decide) ?_
        exact kk _ _ _ ⟨da, db, dd, dk, oa, ob, od, ok, pa, pb, pd, pk, ho, bg, me, tr, fl, kn, nu, re, bf, lv, pl, eK, eV, eX, eY, hld, cf, sa, sb, sd, sk, sts, rg, msl, ga, gb, gd9, gk, gs, hoM, bgM, mm, dn, hlM, knM, mk, nuM, plM, reM, se, vK, vO, vW, Rm, Sm, dc, oc, pc, tk, al, tc, st, en, rt, fkn, ch, ets, nv, asl, vs, k, chM, vals, bb, slM, va, fo', PI, hch, hP, hD, hS, lv_sub hl [2, 3, 4, 5, 6] rfl⟩
      refine lv_if_ne (tgt := 570) hx hb dL_law_555 (by decide) (fun _ => fin) (fun k0 => ?_)
      refine lv_aload_n hx hb dL_law_558 rfl (lv_at hl 5 rfl) ?_
      refine lv_iconst (v := (0 : Int32)) hx hb dL_law_559 (by decide) ?_
      refine va_lald hx hb hK hP 70 2 rfl rfl (show vp_in 0 1 by unfold vp_in; decide) dL_law_560 ?_
      refine lv_iload hx hb dL_law_561 (lv_at hl 0 rfl) ?_
      refine lv_i2l (v := rb.toInt64) hx hb dL_law_563 rfl ?_
      refine W.lcmp hx hb dL_law_564 ?_
      exact lv_if_eq (tgt := 570) hx hb dL_law_565 (by decide) (fun _ => fin) (fun q => absurd (by rw [show (0 : Int32).toNatClampNeg = 0 from rfl, hans k0]; exact lg_cmp_self _) q)
    rcases hz with ⟨q, rfl⟩ | ⟨q, rfl⟩
    · refine lv_if_eq (tgt := 524) hx hb dL_law_517 (by decide) (fun _ => ?_) (fun r => absurd q r)
      exact lv_iconst (v := (0 : Int32)) hx hb dL_law_524 (by decide) mid525
    · refine lv_if_eq (tgt := 524) hx hb dL_law_517 (by decide) (fun r => absurd r q) (fun _ => ?_)
      refine lv_iconst (v := (1 : Int32)) hx hb dL_law_520 (by decide) ?_
      exact lv_goto (tgt := 525) hx hb dL_law_521 (by decide) mid525
  rcases hz with ⟨q, rfl⟩ | ⟨q, rfl⟩
  · refine lv_if_eq (tgt := 491) hx hb dL_law_484 (by decide) (fun _ => ?_) (fun r => absurd q r)
    exact lv_iconst (v := (0 : Int32)) hx hb dL_law_491 (by decide) mid492
  · refine lv_if_eq (tgt := 491) hx hb dL_law_484 (by decide) (fun r => absurd r q) (fun _ => ?_)
    refine lv_iconst (v := (1 : Int32)) hx hb dL_law_487 (by decide) ?_
    exact lv_goto (tgt := 492) hx hb dL_law_488 (by decide) mid492
