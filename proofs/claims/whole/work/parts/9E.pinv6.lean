/-! PURE SIDE: pass keeps the invariant. -/
section P9E
variable {n c co cq : Nat} {da db dd dk oa ob od ok pa pb pd pk ho bg me ga gb gd9 gk gs hoM bgM mm ga' gb' gd' gk' : Nat → Int32} {dc oc pc tk al tc en rt va : Int32} {fo : Nat → Int64}
variable {fl kn nu re bf lv pl eK eV eX eY hl dn hlM knM mk nuM plM reM se vK vO vW : Nat → Int32} {fkn ch ets nv v chM vals bb x1 : Int32}
theorem sim_pass (hn : 410 < n) (I : PInv da db dd dk dc oa ob od ok oc pa pb pd pk pc tk al ho bg me tc en rt ga gb gd9 gk gs hoM bgM mm va) (hch : ch = 0 ∨ ch = 1) (fo : Nat → Int64) (x1 : Int32) :
    ∃ k fo' fl' kn' nu' re' bf' lv' pl' pa' pb' pd' pk' eK' eV' eX' eY' hl' fkn' ch' pc' ets' nv' b ga' gb' gd' dn' hlM' gk' knM' mk' nuM' plM' reM' se' gs' vK' vO' vW' chM' vals' bb',
      f_L_pass n 96 fl kn nu re bf lv pl pa pb pd pk eK eV eX eY hl tk al fkn ch pc ets nv fo x1 = some (k, fo', fl', kn', nu', re', bf', lv', pl', pa', pb', pd', pk', eK', eV', eX', eY', hl', fkn', ch', pc', ets', nv') ∧
      f_X9_pass n ga gb gd9 dn hlM gk knM mk nuM plM reM se gs vK vO vW v tk al chM vals bb x1 = some (b, ga', gb', gd', dn', hlM', gk', knM', mk', nuM', plM', reM', se', gs', vK', vO', vW', k, chM', vals', bb') ∧ (k = 0 → fo' 0 = b.toInt64) ∧ (ch' = 0 ∨ ch' = 1) ∧
      PInv da db dd dk dc oa ob od ok oc pa' pb' pd' pk' pc' tk al ho bg me tc en rt ga' gb' gd' gk' gs' hoM bgM mm va := by
  have I0 := I
  obtain ⟨c, co, cq, ⟨e1, e2, e3, e4, e5, e6⟩, hD, hO, hP, hT, hM⟩ := I
  by_cases hx : x1 < 0 ∨ ¬ x1 ≤ 3
  · exact ⟨1, fo, fl, kn, nu, re, bf, lv, pl, pa, pb, pd, pk, eK, eV, eX, eY, hl, fkn, ch, pc, ets, nv, 0, ga, gb, gd9, dn, hlM, gk, knM, mk, nuM, plM, reM, se, gs, vK, vO, vW, chM, vals, bb, s_pass_bad hx, m_pass_bad hx, fun h => absurd h (by decide), hch, I0⟩
  · by_cases hno : tk = 0 ∨ ¬ al = 0
    · exact ⟨2, fo, fl, kn, nu, re, bf, lv, pl, pa, pb, pd, pk, eK, eV, eX, eY, hl, fkn, ch, pc, ets, nv, 0, ga, gb, gd9, dn, hlM, gk, knM, mk, nuM, plM, reM, se, gs, vK, vO, vW, chM, vals, bb, s_pass_no hx hno, m_pass_no hx hno, fun h => absurd h (by decide), hch, I0⟩
    · rw [not_or, Decidable.not_not] at hno
      obtain ⟨ht, rfl⟩ := hno
      rcases hT with ⟨rfl, -⟩ | ⟨rfl, h0, hT⟩
      · exact absurd rfl ht
      · have hq0 := hT rfl
        obtain ⟨kp, hB, ⟨-, hq, w, hAE⟩ | ⟨h, -⟩⟩ := hP
        · obtain ⟨hA, hE⟩ := hAE hq0
          subst e3
          rw [m_pass_go hx]
          rcases pass_of hx with rfl | rfl | rfl | rfl
          · obtain ⟨p, S, fl', kn', nu', re', fkn', mn', mu', me', hS, hfix, r1, r2⟩ := fold_both (n := n) (L := 96) (c := cq) (fa := pa) (fb := pb) (fd := pd) (fk := pk) (ga := ga) (gb := gb) (gd9 := gd9) (gk := gk) (fs := gs) (kp := kp) (by omega) hq hq0 (by omega) (by decide) (fun i hi => (hB i hi).1) w e5 (fun i hi => (hB i hi).2.1) (fun i hi => (hB i hi).2.2.1) (fun i hi => (hB i hi).2.2.2.1) (fun i hi => (hB i hi).2.2.2.2) (fl := fl) (kn := kn) (nu := nu) (re := re) (mn := knM) (mu9 := nuM) (me := reM) (fkn := fkn) (ch := ch) (v := chM) hch
            obtain ⟨w', hA', hE'⟩ := fold_keeps hq hq0 w hA hS hfix
            refine ⟨0, vp_updL fo ((0 : Int32)).toNatClampNeg (nI (cnN (fC' S kp pd pa pb) cq)).toInt64, fl', kn', nu', re', bf, lv, pl, va_cpy (fA' S kp pd pa pb) pa 0 0 cq, va_cpy (fB' S kp pd pa pb) pb 0 0 cq, va_cpy (fD' S kp pd pa pb) pd 0 0 cq, va_cpy (fun x => nI (fK' S kp pd pa pb x)) pk 0 0 cq, eK, eV, eX, eY, hl, fkn', 0, nI cq, ets, nv, nI (cnN (fC' S kp pd pa pb) cq), va_cpy (fA' S kp pd pa pb) ga 0 100 cq, va_cpy (fB' S kp pd pa pb) gb 0 100 cq, va_cpy (fD' S kp pd pa pb) gd9 0 100 cq, dn, hlM, va_cpy (fun x => nI (fK' S kp pd pa pb x)) gk 0 100 cq, mn', mk, mu', plM, me', se, gs, vK, vO, vW, 0, vals, bb, ?_, ?_, ?_, Or.inl rfl, pinv_present e1 e2 e4 e6 hD hO hM (FrP_cpy _ _ hq) (FrP_cpy _ _ hq) (FrP_cpy _ _ hq) (FrP_cpy _ _ hq) rfl e5 (fun x _ _ => rfl) h0 (fun _ => hq0) (pr_cpy hq w' hA' hE')⟩
            · unfold f_L_pass f_X8_pass
              rw [if_neg (show ¬ (0 : Int32) < 0 by decide), if_pos (show (0 : Int32) ≤ 3 by decide), if_neg (show ¬ (1 : Int32) = 0 by decide), if_pos (show (0 : Int32) = 0 from rfl), if_pos (show (0 : Int32) = 0 from rfl), r1]
              rfl
            · unfold f_X9_pass_25
              rw [show f_X9_throwing v (0 : Int32) (0 : Int32) = some (0, 0) from rfl, Option.bind_some, if_pos (show ((0 : Int32), (0 : Int32)).1 = 0 from rfl), if_pos (show (0 : Int32) = 0 from rfl), r2]
              rfl
            · exact fun _ => rfl
          · obtain ⟨eK', eV', eX', eY', held', v', u', r1⟩ := s_share (n := n) (L := 96) (c := cq) (fa := pa) (fb := pb) (fd := pd) (fk := pk) (kp := kp) (by omega) hq (by omega) (by decide) (fun i hi => (hB i hi).1) w (eK := eK) (eV := eV) (eX := eX) (eY := eY) (held := hl) (v := ets) (u := nv)
            obtain ⟨heldM', vK', vO', vW', vM', uM', r2⟩ := m_share (n := n) (c := cq) (fa := pa) (fb := pb) (fd := pd) (kp := kp) (ga := ga) (gb := gb) (gd9 := gd9) (gk := gk) (fs := gs) (by omega) hq e5 w (fun i hi => (hB i hi).2.1) (fun i hi => (hB i hi).2.2.1) (fun i hi => (hB i hi).2.2.2.1) (fun i hi => (hB i hi).2.2.2.2) (held := hlM) (vK := vK) (vO := vO) (vW := vW) (v := vals) (u := bb)
            obtain ⟨w', hA', hE'⟩ := share_keeps hq w hA hE
            refine ⟨0, vp_updL fo ((0 : Int32)).toNatClampNeg (nI (cnN (sC' kp pd pa pb cq) cq)).toInt64, fl, kn, nu, re, bf, lv, pl, va_cpy (sA' kp pd pa pb cq) pa 0 0 cq, va_cpy (sB' kp pd pa pb cq) pb 0 0 cq, va_cpy (sD' kp pd pa pb cq) pd 0 0 cq, va_cpy (fun x => nI (sK' kp pd pa pb cq x)) pk 0 0 cq, eK', eV', eX', eY', held', fkn, ch, nI cq, v', u', nI (cnN (sC' kp pd pa pb cq) cq), va_cpy (sA' kp pd pa pb cq) ga 0 100 cq, va_cpy (sB' kp pd pa pb cq) gb 0 100 cq, va_cpy (sD' kp pd pa pb cq) gd9 0 100 cq, dn, heldM', va_cpy (fun x => nI (sK' kp pd pa pb cq x)) gk 0 100 cq, knM, mk, nuM, plM, reM, se, gs, vK', vO', vW', chM, vM', uM', ?_, ?_, ?_, hch, pinv_present e1 e2 e4 e6 hD hO hM (FrP_cpy _ _ hq) (FrP_cpy _ _ hq) (FrP_cpy _ _ hq) (FrP_cpy _ _ hq) rfl e5 (fun x _ _ => rfl) h0 (fun _ => hq0) (pr_cpy hq w' hA' hE')⟩
            · unfold f_L_pass f_X8_pass
              rw [if_neg (show ¬ (1 : Int32) < 0 by decide), if_pos (show (1 : Int32) ≤ 3 by decide), if_neg (show ¬ (1 : Int32) = 0 by decide), if_pos (show (0 : Int32) = 0 from rfl), if_neg (show ¬ (1 : Int32) = 0 by decide), if_pos (show (1 : Int32) = 1 from rfl), r1]
              rfl
            · unfold f_X9_pass_25
              rw [show f_X9_throwing v (0 : Int32) (0 : Int32) = some (0, 0) from rfl, Option.bind_some, if_pos (show ((0 : Int32), (0 : Int32)).1 = 0 from rfl), if_neg (show ¬ (1 : Int32) = 0 by decide), if_pos (show (1 : Int32) = 1 from rfl), r2]
              rfl
            · exact fun _ => rfl
          · obtain ⟨m, kq, fa', fb', fd', fk', ga', gb', gd', gk', bf', dn', mk', se', r1, r2, w', ⟨hA', hE'⟩, hB', f1, f2, f3, f4⟩ := drop_both (n := n) (L := 96) (c := cq) (fs := gs) (by omega) hq (by omega) (by decide) e5 (fun kp fd fa fb => Ann cq kp fd fa fb ∧ En cq kp fd) (drop_Q hq) (kp := kp) (fa := pa) (fb := pb) (fd := pd) (fk := pk) (ga := ga) (gb := gb) (gd9 := gd9) (gk := gk) (bf := bf) (dn := dn) (mk := mk) (se := se) w ⟨hA, hE⟩ hB
            refine ⟨0, vp_updL fo ((0 : Int32)).toNatClampNeg (nI m).toInt64, fl, kn, nu, re, bf', lv, pl, fa', fb', fd', fk', eK, eV, eX, eY, hl, fkn, ch, nI cq, ets, nv, nI m, ga', gb', gd', dn', hlM, gk', knM, mk', nuM, plM, reM, se', gs, vK, vO, vW, chM, vals, bb, ?_, ?_, fun _ => rfl, hch, pinv_present e1 e2 e4 e6 hD hO hM (FrP_Fr hq f1) (FrP_Fr hq f2) (FrP_Fr hq f3) (FrP_Fr hq f4) rfl e5 (fun x _ _ => rfl) h0 (fun _ => hq0) ⟨kq, hB', Or.inl ⟨rfl, hq, w', fun _ => ⟨hA', hE'⟩⟩⟩⟩
            · unfold f_L_pass f_X8_pass
              rw [if_neg (show ¬ (2 : Int32) < 0 by decide), if_pos (show (2 : Int32) ≤ 3 by decide), if_neg (show ¬ (1 : Int32) = 0 by decide), if_pos (show (0 : Int32) = 0 from rfl), if_neg (show ¬ (2 : Int32) = 0 by decide), if_neg (show ¬ (2 : Int32) = 1 by decide), if_pos (show (2 : Int32) = 2 from rfl), r1]
              rfl
            · unfold f_X9_pass_25
              rw [show f_X9_throwing v (0 : Int32) (0 : Int32) = some (0, 0) from rfl, Option.bind_some, if_pos (show ((0 : Int32), (0 : Int32)).1 = 0 from rfl), if_neg (show ¬ (2 : Int32) = 0 by decide), if_neg (show ¬ (2 : Int32) = 1 by decide), if_pos (show (2 : Int32) = 2 from rfl), r2]
              rfl
          · obtain ⟨D, c2, lv', pl', fa', fb', fd', fk', ga', gb', gd', gk', mk', pm', fs', hD2, hc2, r1, r2, g1, g2, hrow, hB', w', f1, f2, f3, f4⟩ := pack_both (n := n) (L := 96) (c := cq) (fs := gs) (kp := kp) (fa := pa) (fb := pb) (fd := pd) (fk := pk) (ga := ga) (gb := gb) (gd9 := gd9) (gk := gk) (by omega) hq (by omega) (by decide) e5 w hB lv pl mk plM
            obtain ⟨hA', hE', h02⟩ := pack_keeps hq w hA hE hD2 hc2 hrow
            have hle : c2 ≤ 24 := by
              have := cnN_le (fun j => !lvs kp cq D j) cq
              rw [hc2]
              exact Nat.le_trans this hq
            refine ⟨0, vp_updL fo ((0 : Int32)).toNatClampNeg (nI (cq - c2)).toInt64, fl, kn, nu, re, bf, lv', pl', fa', fb', fd', fk', eK, eV, eX, eY, hl, fkn, ch, nI c2, ets, nv, nI (cq - c2), ga', gb', gd', dn, hlM, gk', knM, mk', nuM, pm', reM, se, fs', vK, vO, vW, chM, vals, bb, ?_, ?_, fun _ => rfl, hch, pinv_present e1 e2 e4 e6 hD hO hM f1 f2 f3 f4 rfl g1 g2 h0 (fun _ => h02) ⟨_, hB', Or.inl ⟨rfl, hle, w', fun _ => ⟨hA', hE'⟩⟩⟩⟩
            · unfold f_L_pass f_X8_pass
              rw [if_neg (show ¬ (3 : Int32) < 0 by decide), if_pos (show (3 : Int32) ≤ 3 by decide), if_neg (show ¬ (1 : Int32) = 0 by decide), if_pos (show (0 : Int32) = 0 from rfl), if_neg (show ¬ (3 : Int32) = 0 by decide), if_neg (show ¬ (3 : Int32) = 1 by decide), if_neg (show ¬ (3 : Int32) = 2 by decide), r1]
              rfl
            · unfold f_X9_pass_25
              rw [show f_X9_throwing v (0 : Int32) (0 : Int32) = some (0, 0) from rfl, Option.bind_some, if_pos (show ((0 : Int32), (0 : Int32)).1 = 0 from rfl), if_neg (show ¬ (3 : Int32) = 0 by decide), if_neg (show ¬ (3 : Int32) = 1 by decide), if_neg (show ¬ (3 : Int32) = 2 by decide), r2]
              rfl
        · exact absurd h (by decide)
end P9E
