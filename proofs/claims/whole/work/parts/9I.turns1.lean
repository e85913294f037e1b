set_option maxHeartbeats 4000000 in
set_option maxRecDepth 100000 in
theorem turn_instruction {p : Program} {l : Launch} {e : Env} {s : State} {m : MethodId} {below : List Frame} {meth : Method} {c : Code} {D : va_G} {cI cZ cJ : ClassId} {h : Nat → Nat} {b L : Nat} {xs : Nat → Int32} {H : Heap} {locs : List Loc} {ls : Array Slot} {cells slots : Nat} {Q : State → Prop} {x4 : Int32} (F : lwF p l s m c D cI cZ cJ b L xs) (h1 : vp_in (x4 + 1) L) (h2 : vp_in (x4 + 2) L) (h3 : vp_in (x4 + 3) L) (h4 : vp_in (x4 + 4) L) (hcr : cells + 1 ≤ 601024 ∧ slots + 6 ≤ 7293034) (I : lwI s D cI cZ cJ h b x4 H locs ls)
    (kk : ∀ (H1 : Heap) (locs1 : List Loc) (ls1 : Array Slot), lwI s D cI cZ cJ h b x4 H1 locs1 ls1 → W p l e room_1 s m #[Value.ref b] below meth c H1 locs1 (cells + 1) (slots + 6) Q (F0 m 886 ls1 [])) : W p l e room_1 s m #[Value.ref b] below meth c H locs cells slots Q (F0 m 108 ls []) := by
  obtain ⟨S, hK, TR, hN, hX, hbl, hlt⟩ := F
  have hx := S.1
  have hb := S.2.1
  have hts := S.2.2.2.2
  have hA : ∀ q : Nat, s.heap.size ≤ q → lwA s q := fun _ h => h
  have hbA : ¬ lwA s b := Nat.not_le.mpr hbl
  obtain ⟨da, db, dd, dk, oa, ob, od, ok, pa, pb, pd, pk, ho, bg, me, tr, fl, kn, nu, re, bf, lv, pl, eK, eV, eX, eY, hld, cf, sa, sb, sd, sk, sts, rg, msl, ga, gb, gd9, gk, gs, hoM, bgM, mm, dn, hlM, knM, mk, nuM, plM, reM, se, vK, vO, vW, Rm, Sm, dc, oc, pc, tk, al, tc, st, en, rt, fkn, ch, ets, nv, asl, vs, tv, chM, vals, bb, slM, va, fo, PI, hch, hP, hD, hS, hl⟩ := I
  obtain ⟨k, fo', da', db', dd', dk', dc', rb, ga', gb', gd9', gk', gs', g1, g2, hans, PI'⟩ := sim_instr PI fo tv (xs (x4 + 1).toNatClampNeg) (xs (x4 + 2).toNatClampNeg) (xs (x4 + 3).toNatClampNeg) (xs (x4 + 4).toNatClampNeg)
  refine lv_aload_n hx hb dL_law_108 rfl (lv_at hl 1 rfl) ?_
  refine lv_aload_n hx hb dL_law_109 rfl (lv_at hl 0 rfl) ?_
  refine lv_iload hx hb dL_law_110 (lv_at hl 4 rfl) ?_
  refine lv_iconst (v := (1 : Int32)) hx hb dL_law_112 (by decide) ?_
  refine lv_iadd hx hb dL_law_113 ?_
  refine va_sld hx hb hX hbl hbA hS h1 dL_law_114 ?_
  refine lv_aload_n hx hb dL_law_115 rfl (lv_at hl 0 rfl) ?_
  refine lv_iload hx hb dL_law_116 (lv_at hl 4 rfl) ?_
  refine lv_iconst (v := (2 : Int32)) hx hb dL_law_118 (by decide) ?_
  refine lv_iadd hx hb dL_law_119 ?_
  refine va_sld hx hb hX hbl hbA hS h2 dL_law_120 ?_
  refine lv_aload_n hx hb dL_law_121 rfl (lv_at hl 0 rfl) ?_
  refine lv_iload hx hb dL_law_122 (lv_at hl 4 rfl) ?_
  refine lv_iconst (v := (3 : Int32)) hx hb dL_law_124 (by decide) ?_
  refine lv_iadd hx hb dL_law_125 ?_
  refine va_sld hx hb hX hbl hbA hS h3 dL_law_126 ?_
  refine lv_aload_n hx hb dL_law_127 rfl (lv_at hl 0 rfl) ?_
  refine lv_iload hx hb dL_law_128 (lv_at hl 4 rfl) ?_
  refine lv_iconst (v := (4 : Int32)) hx hb dL_law_130 (by decide) ?_
  refine lv_iadd hx hb dL_law_131 ?_
  refine va_sld hx hb hX hbl hbA hS h4 dL_law_132 ?_
  refine lv_aload_n hx hb dL_law_133 rfl (lv_at hl 3 rfl) ?_
  refine g_lawL (ww' := lwW h cI cZ cJ da' db' dd' dk' oa ob od ok pa pb pd pk ho bg me tr fl kn nu re bf lv pl eK eV eX eY hld cf sa sb sd sk sts rg msl ga gb gd9 gk gs hoM bgM mm tr dn hlM knM mk nuM plM reM se vK vO vW Rm Sm dc' oc pc tk al tc st en rt fkn ch ets nv asl vs tv tk al chM vals bb slM tc st en va fo') S (c_L_instruction l hlt D cI cZ cJ (h 0) (h 1) (h 6) (h 11) (h 16) (h 18) (h 23) (h 29) (h 32) (h 41) (h 2) (h 3) (h 4) (h 5) (h 70) _ 24 da db dd dk tk al dc fo (xs (x4 + 1).toNatClampNeg) (xs (x4 + 2).toNatClampNeg) (xs (x4 + 3).toNatClampNeg) (xs (x4 + 4).toNatClampNeg) _ g1) (vx_cwSW 6 hts gl_L_instruction rfl rfl rfl (by decide +kernel) ⟨(Nat.le_of_ble_eq_true rfl), (Nat.le_of_ble_eq_true rfl)⟩) hK hP hD hS hA TR hN [0, 1, 4, 5, 3, 2, 70] [some 0, some 1, some 5, some 4, some 2, some 3, none, none, none, none, none, none, none, none, none, none, none, none, none, none, none, none, none, none, none, none, none, none, none, none, none, none, none, none, none, none, none, none, none, none, none, none, none, none, none, none, none, none, none, none, none, none, none, none, none, none, none, none, none, none, none, none, none, none, none, none, none, none, none, none, some 6] rfl (by decide) rfl rfl (by decide) rfl hl.1 rfl (Nat.le_of_ble_eq_true rfl) dL_law_134 hcr (fun H locs hP hD hS => ?_)
  refine lv_istore (lv' := [(5, .int k), (0, .ref b), (1, .ref (h 0)), (2, .ref (h 47)), (3, .ref (h 70)), (4, .int x4)]) hx hb dL_law_137 hl (by decide) rfl (fun ls hl => ?_)
  refine lv_aload_n hx hb dL_law_139 rfl (lv_at hl 3 rfl) ?_
  refine lv_aload_n hx hb dL_law_140 rfl (lv_at hl 1 rfl) ?_
  refine lv_iload hx hb dL_law_141 (lv_at hl 5 rfl) ?_
  refine lv_iconst (v := (1 : Int32)) hx hb dL_law_143 (by decide) ?_
  refine lv_iadd hx hb dL_law_144 ?_
  refine va_sld hx hb hX hbl hbA hS h1 dL_law_145 ?_
  refine lv_aload_n hx hb dL_law_146 rfl (lv_at hl 1 rfl) ?_
  refine lv_iload hx hb dL_law_147 (lv_at hl 5 rfl) ?_
  refine lv_iconst (v := (2 : Int32)) hx hb dL_law_149 (by decide) ?_
  refine lv_iadd hx hb dL_law_150 ?_
  refine va_sld hx hb hX hbl hbA hS h2 dL_law_151 ?_
  refine lv_aload_n hx hb dL_law_152 rfl (lv_at hl 1 rfl) ?_
  refine lv_iload hx hb dL_law_153 (lv_at hl 5 rfl) ?_
  refine lv_iconst (v := (3 : Int32)) hx hb dL_law_155 (by decide) ?_
  refine lv_iadd hx hb dL_law_156 ?_
  refine va_sld hx hb hX hbl hbA hS h3 dL_law_157 ?_
  refine lv_aload_n hx hb dL_law_158 rfl (lv_at hl 1 rfl) ?_
  refine lv_iload hx hb dL_law_159 (lv_at hl 5 rfl) ?_
  refine lv_iconst (v := (4 : Int32)) hx hb dL_law_161 (by decide) ?_
  refine lv_iadd hx hb dL_law_162 ?_
  refine va_sld hx hb hX hbl hbA hS h4 dL_law_163 ?_
  refine g_lawVi (ww' := lwW h cI cZ cJ da' db' dd' dk' oa ob od ok pa pb pd pk ho bg me tr fl kn nu re bf lv pl eK eV eX eY hld cf sa sb sd sk sts rg msl ga' gb' gd9' gk' gs' hoM bgM mm tr dn hlM knM mk nuM plM reM se vK vO vW Rm Sm dc' oc pc tk al tc st en rt fkn ch ets nv asl vs k tk al chM vals bb slM tc st en va fo') S (c_X9_instruction l D cI cZ (h 47) (h 48) (h 49) (h 50) (h 51) (h 52) (h 53) (h 54) (h 55) (h 56) (h 57) (h 58) (h 59) (h 60) (h 61) (h 62) (h 63) (h 64) (h 65) (h 66) (h 67) (h 68) (h 69) _ ga gb gd9 gk gs tv tk al chM vals bb slM tc st en va (xs (x4 + 1).toNatClampNeg) (xs (x4 + 2).toNatClampNeg) (xs (x4 + 3).toNatClampNeg) (xs (x4 + 4).toNatClampNeg) _ g2) (cwV 4 hts gl_X9_instruction rfl rfl rfl (by decide +kernel) ⟨(Nat.le_of_ble_eq_true rfl), (Nat.le_of_ble_eq_true rfl)⟩) (hK.sub [0, 1] rfl) hP hD hS hA 47 (ci := 8) rfl rfl [47, 51, 52, 50, 49, 48] [none, none, none, none, none, none, none, none, none, none, none, none, none, none, none, none, none, none, none, none, none, none, none, none, none, none, none, none, none, none, none, none, none, none, none, none, none, none, none, none, none, none, none, none, none, none, none, some 0, some 5, some 4, some 3, some 1, some 2, none, none, none, none, none, none, none, none, none, none, none, none, none, none, none, none, none, none] rfl (by decide) rfl rfl (by decide) rfl hl.1 rfl (Nat.le_of_ble_eq_true rfl) dL_law_164 hcr (fun H locs hP hD hS => ?_)
  refine lv_istore (lv' := [(6, .int rb), (5, .int k), (0, .ref b), (1, .ref (h 0)), (2, .ref (h 47)), (3, .ref (h 70)), (4, .int x4)]) hx hb dL_law_167 hl (by decide) rfl (fun ls hl => ?_)
  refine lv_aload_n hx hb dL_law_169 rfl (lv_at hl 4 rfl) ?_
  refine g_lawVi (ww' := lwW h cI cZ cJ da' db' dd' dk' oa ob od ok pa pb pd pk ho bg me tr fl kn nu re bf lv pl eK eV eX eY hld cf sa sb sd sk sts rg msl ga' gb' gd9' gk' gs' hoM bgM mm tr dn hlM knM mk nuM plM reM se vK vO vW Rm Sm dc' oc pc tk al tc st en rt fkn ch ets nv asl vs k tk al chM vals bb slM tc st en va fo') S (c_X9_thrown l D cI cZ (h 47) (h 48) (h 49) (h 50) (h 51) (h 52) (h 53) (h 54) (h 55) (h 56) (h 57) (h 58) (h 59) (h 60) (h 61) (h 62) (h 63) (h 64) (h 65) (h 66) (h 67) (h 68) (h 69) _ k tk al chM vals bb slM tc st en va _ rfl) (cwV 0 hts gl_X9_thrown rfl rfl rfl (by decide +kernel) ⟨(Nat.le_of_ble_eq_true rfl), (Nat.le_of_ble_eq_true rfl)⟩) (hK.sub [0, 1] rfl) hP hD hS hA 47 (ci := 8) rfl rfl [47] [none, none, none, none, none, none, none, none, none, none, none, none, none, none, none, none, none, none, none, none, none, none, none, none, none, none, none, none, none, none, none, none, none, none, none, none, none, none, none, none, none, none, none, none, none, none, none, some 0, none, none, none, none, none, none, none, none, none, none, none, none, none, none, none, none, none, none, none, none, none, none, none] rfl (by decide) rfl rfl (by decide) rfl hl.1 rfl (Nat.le_of_ble_eq_true rfl) dL_law_170 hcr (fun H locs hP hD hS => ?_)
  refine lv_iload hx hb dL_law_173 (lv_at hl 1 rfl) ?_
  refine lv_icmp_eq (tgt := 180) hx hb dL_law_175 (by decide) (fun _ => ?_) (fun q => absurd rfl q)
  refine lv_iload hx hb dL_law_180 (lv_at hl 1 rfl) ?_
  have fin : W p l e room_1 s m #[Value.ref b] below meth c H locs (cells + 1) (slots + 6) Q (F0 m 197 ls []) := by
    refine lv_goto (tgt := 886) hx hb dL_law_197 (by decide) ?_
    exact kk _ _ _ ⟨da', db', dd', dk', oa, ob, od, ok, pa, pb, pd, pk, ho, bg, me, tr, fl, kn, nu, re, bf, lv, pl, eK, eV, eX, eY, hld, cf, sa, sb, sd, sk, sts, rg, msl, ga', gb', gd9', gk', gs', hoM, bgM, mm, dn, hlM, knM, mk, nuM, plM, reM, se, vK, vO, vW, Rm, Sm, dc', oc, pc, tk, al, tc, st, en, rt, fkn, ch, ets, nv, asl, vs, k, chM, vals, bb, slM, va, fo', PI', hch, hP, hD, hS, lv_sub hl [2, 3, 4, 5, 6] rfl⟩
  refine lv_if_ne (tgt := 197) hx hb dL_law_182 (by decide) (fun _ => fin) (fun k0 => ?_)
  refine lv_aload_n hx hb dL_law_185 rfl (lv_at hl 5 rfl) ?_
  refine lv_iconst (v := (0 : Int32)) hx hb dL_law_186 (by decide) ?_
  refine va_lald hx hb hK hP 70 2 rfl rfl (show vp_in 0 1 by unfold vp_in; decide) dL_law_187 ?_
  refine lv_iload hx hb dL_law_188 (lv_at hl 0 rfl) ?_
  refine lv_i2l (v := rb.toInt64) hx hb dL_law_190 rfl ?_
  refine W.lcmp hx hb dL_law_191 ?_
  exact lv_if_eq (tgt := 197) hx hb dL_law_192 (by decide) (fun _ => fin) (fun q => absurd (by rw [show (0 : Int32).toNatClampNeg = 0 from rfl, hans k0]; exact lg_cmp_self _) q)
