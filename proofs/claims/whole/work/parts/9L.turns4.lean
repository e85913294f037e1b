set_option maxHeartbeats 4000000 in
set_option maxRecDepth 100000 in
theorem turn_allocate {p : Program} {l : Launch} {e : Env} {s : State} {m : MethodId} {below : List Frame} {meth : Method} {c : Code} {D : va_G} {cI cZ cJ : ClassId} {h : Nat → Nat} {b L : Nat} {xs : Nat → Int32} {H : Heap} {locs : List Loc} {ls : Array Slot} {cells slots : Nat} {Q : State → Prop} {x4 : Int32} (F : lwF p l s m c D cI cZ cJ b L xs) (h1 : vp_in (x4 + 1) L) (hcr : cells + 1 ≤ 601024 ∧ slots + 6 ≤ 7293034) (I : lwI s D cI cZ cJ h b x4 H locs ls)
    (kk : ∀ (H1 : Heap) (locs1 : List Loc) (ls1 : Array Slot), lwI s D cI cZ cJ h b x4 H1 locs1 ls1 → W p l e room_1 s m #[Value.ref b] below meth c H1 locs1 (cells + 1) (slots + 6) Q (F0 m 886 ls1 [])) : W p l e room_1 s m #[Value.ref b] below meth c H locs cells slots Q (F0 m 300 ls []) := by
  obtain ⟨S, hK, TR, hN, hX, hbl, hlt⟩ := F
  have hx := S.1
  have hb := S.2.1
  have hts := S.2.2.2.2
  have hA : ∀ q : Nat, s.heap.size ≤ q → lwA s q := fun _ h => h
  have hbA : ¬ lwA s b := Nat.not_le.mpr hbl
  obtain ⟨da, db, dd, dk, oa, ob, od, ok, pa, pb, pd, pk, ho, bg, me, tr, fl, kn, nu, re, bf, lv, pl, eK, eV, eX, eY, hld, cf, sa, sb, sd, sk, sts, rg, msl, ga, gb, gd9, gk, gs, hoM, bgM, mm, dn, hlM, knM, mk, nuM, plM, reM, se, vK, vO, vW, Rm, Sm, dc, oc, pc, tk, al, tc, st, en, rt, fkn, ch, ets, nv, asl, vs, tv, chM, vals, bb, slM, va, fo, PI, hch, hP, hD, hS, hl⟩ := I
  obtain ⟨k, fo', cf', ho', sa', sb', sd', sk', sts', bf', pa', pb', pd', pk', al', asl', vs', pc', rb, ga', gb', gd9', dn', hoM', gk', plM', se', gs', slM', g1, g2, hans, PI'⟩ := sim_allocate (n := 1000) (cf := cf) (sa := sa) (sb := sb) (sd := sd) (sk := sk) (sts := sts) (bf := bf) (dn := dn) (pl := plM) (se := se) (sl := asl) (vs := vs) (v := tv) (slM := slM) (by omega) PI fo (xs (x4 + 1).toNatClampNeg)
  refine lv_aload_n hx hb dL_law_300 rfl (lv_at hl 1 rfl) ?_
  refine lv_aload_n hx hb dL_law_301 rfl (lv_at hl 0 rfl) ?_
  refine lv_iload hx hb dL_law_302 (lv_at hl 4 rfl) ?_
  refine lv_iconst (v := (1 : Int32)) hx hb dL_law_304 (by decide) ?_
  refine lv_iadd hx hb dL_law_305 ?_
  refine va_sld hx hb hX hbl hbA hS h1 dL_law_306 ?_
  refine lv_aload_n hx hb dL_law_307 rfl (lv_at hl 3 rfl) ?_
  refine g_lawL (ww' := lwW h cI cZ cJ da db dd dk oa ob od ok pa' pb' pd' pk' ho' bg me tr fl kn nu re bf' lv pl eK eV eX eY hld cf' sa' sb' sd' sk' sts' rg msl ga gb gd9 gk gs hoM bgM mm tr dn hlM knM mk nuM plM reM se vK vO vW Rm Sm dc oc pc' tk al' tc st en rt fkn ch ets nv asl' vs' tv tk al chM vals bb slM tc st en va fo') S (c_L_allocate l hlt D cI cZ cJ (h 0) (h 1) (h 6) (h 11) (h 16) (h 18) (h 23) (h 29) (h 32) (h 41) (h 33) (h 34) (h 35) (h 36) (h 37) (h 38) (h 39) (h 40) (h 17) (h 12) (h 13) (h 14) (h 15) (h 70) _ 24 96 cf ho sa sb sd sk sts bf pa pb pd pk tk al asl vs pc fo 1000 (xs (x4 + 1).toNatClampNeg) _ g1) (vx_cwSW 3 hts gl_L_allocate rfl rfl rfl (by decide +kernel) ⟨(Nat.le_of_ble_eq_true rfl), (Nat.le_of_ble_eq_true rfl)⟩) hK hP hD hS hA TR hN [0, 32, 34, 33, 36, 39, 40, 38, 37, 35, 16, 17, 11, 14, 15, 13, 12, 70] [some 0, none, none, none, none, none, none, none, none, none, none, some 12, some 16, some 15, some 13, some 14, some 10, some 11, none, none, none, none, none, none, none, none, none, none, none, none, none, none, some 1, some 3, some 2, some 9, some 4, some 8, some 7, some 5, some 6, none, none, none, none, none, none, none, none, none, none, none, none, none, none, none, none, none, none, none, none, none, none, none, none, none, none, none, none, none, some 17] rfl (by decide) rfl rfl (by decide) rfl hl.1 rfl (Nat.le_of_ble_eq_true rfl) dL_law_308 hcr (fun H locs hP hD hS => ?_)
  refine lv_istore (lv' := [(5, .int k), (0, .ref b), (1, .ref (h 0)), (2, .ref (h 47)), (3, .ref (h 70)), (4, .int x4)]) hx hb dL_law_311 hl (by decide) rfl (fun ls hl => ?_)
  refine lv_aload_n hx hb dL_law_313 rfl (lv_at hl 3 rfl) ?_
  refine lv_aload_n hx hb dL_law_314 rfl (lv_at hl 1 rfl) ?_
  refine lv_iload hx hb dL_law_315 (lv_at hl 5 rfl) ?_
  refine lv_iconst (v := (1 : Int32)) hx hb dL_law_317 (by decide) ?_
  refine lv_iadd hx hb dL_law_318 ?_
  refine va_sld hx hb hX hbl hbA hS h1 dL_law_319 ?_
  refine g_lawVi (ww' := lwW h cI cZ cJ da db dd dk oa ob od ok pa' pb' pd' pk' ho' bg me tr fl kn nu re bf' lv pl eK eV eX eY hld cf' sa' sb' sd' sk' sts' rg msl ga' gb' gd9' gk' gs' hoM' bgM mm tr dn' hlM knM mk nuM plM' reM se' vK vO vW Rm Sm dc oc pc' tk al' tc st en rt fkn ch ets nv asl' vs' k tk al' chM vals bb slM' tc st en va fo') S (c_X9_allocate l D cI cZ (h 47) (h 48) (h 49) (h 50) (h 51) (h 52) (h 53) (h 54) (h 55) (h 56) (h 57) (h 58) (h 59) (h 60) (h 61) (h 62) (h 63) (h 64) (h 65) (h 66) (h 67) (h 68) (h 69) _ ga gb gd9 dn hoM gk plM se gs tv tk al chM vals bb slM tc st en va 1000 (xs (x4 + 1).toNatClampNeg) _ g2) (cwV 1 hts gl_X9_allocate rfl rfl rfl (by decide +kernel) ⟨(Nat.le_of_ble_eq_true rfl), (Nat.le_of_ble_eq_true rfl)⟩) (hK.sub [0, 1] rfl) hP hD hS hA 47 (ci := 8) rfl rfl [47, 51, 52, 50, 54, 64, 49, 56, 53, 48] [none, none, none, none, none, none, none, none, none, none, none, none, none, none, none, none, none, none, none, none, none, none, none, none, none, none, none, none, none, none, none, none, none, none, none, none, none, none, none, none, none, none, none, none, none, none, none, some 0, some 9, some 6, some 3, some 1, some 2, some 8, some 4, none, some 7, none, none, none, none, none, none, none, some 5, none, none, none, none, none, none] rfl (by decide) rfl rfl (by decide) rfl hl.1 rfl (Nat.le_of_ble_eq_true rfl) dL_law_320 hcr (fun H locs hP hD hS => ?_)
  refine lv_istore (lv' := [(6, .int rb), (5, .int k), (0, .ref b), (1, .ref (h 0)), (2, .ref (h 47)), (3, .ref (h 70)), (4, .int x4)]) hx hb dL_law_323 hl (by decide) rfl (fun ls hl => ?_)
  refine lv_aload_n hx hb dL_law_325 rfl (lv_at hl 4 rfl) ?_
  refine g_lawVi (ww' := lwW h cI cZ cJ da db dd dk oa ob od ok pa' pb' pd' pk' ho' bg me tr fl kn nu re bf' lv pl eK eV eX eY hld cf' sa' sb' sd' sk' sts' rg msl ga' gb' gd9' gk' gs' hoM' bgM mm tr dn' hlM knM mk nuM plM' reM se' vK vO vW Rm Sm dc oc pc' tk al' tc st en rt fkn ch ets nv asl' vs' k tk al' chM vals bb slM' tc st en va fo') S (c_X9_thrown l D cI cZ (h 47) (h 48) (h 49) (h 50) (h 51) (h 52) (h 53) (h 54) (h 55) (h 56) (h 57) (h 58) (h 59) (h 60) (h 61) (h 62) (h 63) (h 64) (h 65) (h 66) (h 67) (h 68) (h 69) _ k tk al' chM vals bb slM' tc st en va _ rfl) (cwV 0 hts gl_X9_thrown rfl rfl rfl (by decide +kernel) ⟨(Nat.le_of_ble_eq_true rfl), (Nat.le_of_ble_eq_true rfl)⟩) (hK.sub [0, 1] rfl) hP hD hS hA 47 (ci := 8) rfl rfl [47] [none, none, none, none, none, none, none, none, none, none, none, none, none, none, none, none, none, none, none, none, none, none, none, none, none, none, none, none, none, none, none, none, none, none, none, none, none, none, none, none, none, none, none, none, none, none, none, some 0, none, none, none, none, none, none, none, none, none, none, none, none, none, none, none, none, none, none, none, none, none, none, none] rfl (by decide) rfl rfl (by decide) rfl hl.1 rfl (Nat.le_of_ble_eq_true rfl) dL_law_326 hcr (fun H locs hP hD hS => ?_)
  refine lv_iload hx hb dL_law_329 (lv_at hl 1 rfl) ?_
  refine lv_icmp_eq (tgt := 336) hx hb dL_law_331 (by decide) (fun _ => ?_) (fun q => absurd rfl q)
  refine lv_iload hx hb dL_law_336 (lv_at hl 1 rfl) ?_
  have fin : W p l e room_1 s m #[Value.ref b] below meth c H locs (cells + 1) (slots + 6) Q (F0 m 353 ls []) := by
    refine lv_goto (tgt := 886) hx hb dL_law_353 (by decide) ?_
    exact kk _ _ _ ⟨da, db, dd, dk, oa, ob, od, ok, pa', pb', pd', pk', ho', bg, me, tr, fl, kn, nu, re, bf', lv, pl, eK, eV, eX, eY, hld, cf', sa', sb', sd', sk', sts', rg, msl, ga', gb', gd9', gk', gs', hoM', bgM, mm, dn', hlM, knM, mk, nuM, plM', reM, se', vK, vO, vW, Rm, Sm, dc, oc, pc', tk, al', tc, st, en, rt, fkn, ch, ets, nv, asl', vs', k, chM, vals, bb, slM', va, fo', PI', hch, hP, hD, hS, lv_sub hl [2, 3, 4, 5, 6] rfl⟩
  refine lv_if_ne (tgt := 353) hx hb dL_law_338 (by decide) (fun _ => fin) (fun k0 => ?_)
  refine lv_aload_n hx hb dL_law_341 rfl (lv_at hl 5 rfl) ?_
  refine lv_iconst (v := (0 : Int32)) hx hb dL_law_342 (by decide) ?_
  refine va_lald hx hb hK hP 70 2 rfl rfl (show vp_in 0 1 by unfold vp_in; decide) dL_law_343 ?_
  refine lv_iload hx hb dL_law_344 (lv_at hl 0 rfl) ?_
  refine lv_i2l (v := rb.toInt64) hx hb dL_law_346 rfl ?_
  refine W.lcmp hx hb dL_law_347 ?_
  exact lv_if_eq (tgt := 353) hx hb dL_law_348 (by decide) (fun _ => fin) (fun q => absurd (by rw [show (0 : Int32).toNatClampNeg = 0 from rfl, hans k0]; exact lg_cmp_self _) q)
