/-! PURE SIDE: run keeps the invariant. -/
section P9C
variable {n c co cq : Nat} {da db dd dk oa ob od ok pa pb pd pk ho bg me ga gb gd9 gk gs hoM bgM mm ga' gb' gd' gk' : Nat → Int32} {dc oc pc tk al tc en rt va : Int32} {fo : Nat → Int64}
theorem sim_run {rg sl tr Rm Sm : Nat → Int32} {st : Int32} (hn : 410 < n) (I : PInv da db dd dk dc oa ob od ok oc pa pb pd pk pc tk al ho bg me tc en rt ga gb gd9 gk gs hoM bgM mm va) (fo : Nat → Int64) (v x1 x2 x3 : Int32) :
    ∃ k fo' me' rg' sl' tr' tc' st' en' rt' b mm' Rm' Sm' va', f_L_run n 24 96 bg me rg sl tr oa ob od ok pa pb pd pk tk tc st en rt oc pc fo x1 x2 x3 = some (k, fo', me', rg', sl', tr', tc', st', en', rt') ∧
      f_X9_run n ga gb gd9 gk mm Rm Sm bgM tr v tk tc st en va x1 x2 x3 = some (b, mm', Rm', Sm', tr', k, tc', st', en', va') ∧ (k = 0 → fo' 0 = b.toInt64) ∧
      PInv da db dd dk dc oa ob od ok oc pa pb pd pk pc tk al ho bg me' tc' en' rt' ga gb gd9 gk gs hoM bgM mm' va' := by
  have I0 := I
  obtain ⟨c, co, cq, ⟨e1, e2, e3, e4, e5, e6⟩, hD, hO, hP, hT, hM⟩ := I
  have hT0 := hT
  rcases hT with ⟨rfl, rfl, hco, hcq⟩ | ⟨rfl, h0, hT⟩
  · refine ⟨1, fo, me, rg, sl, tr, tc, st, en, rt, 0, mm, Rm, Sm, va, ?_, m_run_no, fun h => absurd h (by decide), I0⟩
    unfold f_L_run f_X8_run
    rw [if_pos rfl]
    rfl
  · subst e2 e3
    have hO0 := hO
    have hP0 := hP
    by_cases hx : x1 = 0
    · obtain ⟨hc, ko, ho1, w, hAE⟩ := hO
      obtain ⟨hA, hE⟩ := hAE h0
      obtain ⟨e, Mc', Rc', Sc', T', tc', st', ret', Mm', Rm', Sm', val', r1, r2, r3, r4, r5, r6, r7⟩ := run_both (n := n) (L := 24) (c := co) (base := 0) (kp := ko) (fa := oa) (fb := ob) (fd := od) (fk := ok) (ga := ga) (gb := gb) (gd9 := gd9) (gk := gk) (x1 := x1) hn hc (by decide) (by omega) (by rw [if_pos hx]) (fun i hi => (ho1 i hi).1) (fun i hi => by rw [Nat.zero_add]; exact (ho1 i hi).2) (fun i hi => WI_WA (by omega) (w i hi)) (ann_nf (by omega) h0 w hA) (Mc := me) (Rc := rg) (Sc := sl) (Mm := mm) (Rm := Rm) (Sm := Sm) (T := tr) (a1 := tc) (a2 := st) (a3 := en) (a4 := rt) (b1 := tc) (b2 := st) (b3 := en) (b4 := va) (thr := v) hM.1 x2 x3
      refine ⟨0, vp_updL fo ((0 : Int32)).toNatClampNeg (nI e).toInt64, Mc', Rc', Sc', T', nI tc', nI st', nI e, ret', nI e, Mm', Rm', Sm', val', ?_, r2, fun _ => rfl, c, co, cq, ⟨e1, rfl, rfl, e4, e5, e6⟩, hD, hO0, hP0, hT0, hM.1, ⟨tc', r4, rfl⟩, Or.inr ⟨nI_pos' (by omega), ?_, r3, ?_⟩⟩
      · unfold f_L_run f_X8_run
        rw [if_neg (show ¬ (1 : Int32) = 0 by decide), if_pos hx, r1]
        rfl
      · intro h
        have := nI_pos (n := e) (by omega)
        rw [h] at this
        exact this (by decide)
      · intro h
        exact r7 ((nI_eq (b := 0) (by omega) (by omega)).mp (by rw [h, nI_0]))
    · have hcq := PrI_le hP
      obtain ⟨kp, hB, hPP⟩ := hP
      have hwn : (∀ i, i < cq → WA (kp i) (pd i) (pa i) (pb i)) ∧ NF cq kp pd pa pb := by
        rcases hPP with ⟨a1, a2, a3, a4⟩ | ⟨a1, a2, a3, a4, -⟩
        · have h1 := hT a1
          exact ⟨fun i hi => WI_WA (by omega) (a3 i hi), ann_nf (by omega) h1 a3 (a4 h1).1⟩
        · exact ⟨a3, a4⟩
      obtain ⟨e, Mc', Rc', Sc', T', tc', st', ret', Mm', Rm', Sm', val', r1, r2, r3, r4, r5, r6, r7⟩ := run_both (n := n) (L := 96) (c := cq) (base := 100) (kp := kp) (fa := pa) (fb := pb) (fd := pd) (fk := pk) (ga := ga) (gb := gb) (gd9 := gd9) (gk := gk) (x1 := x1) hn hcq (by decide) (by omega) (by rw [if_neg hx]) (fun i hi => (hB i hi).1) (fun i hi => (hB i hi).2) hwn.1 hwn.2 (Mc := me) (Rc := rg) (Sc := sl) (Mm := mm) (Rm := Rm) (Sm := Sm) (T := tr) (a1 := tc) (a2 := st) (a3 := en) (a4 := rt) (b1 := tc) (b2 := st) (b3 := en) (b4 := va) (thr := v) hM.1 x2 x3
      refine ⟨0, vp_updL fo ((0 : Int32)).toNatClampNeg (nI e).toInt64, Mc', Rc', Sc', T', nI tc', nI st', nI e, ret', nI e, Mm', Rm', Sm', val', ?_, r2, fun _ => rfl, c, co, cq, ⟨e1, rfl, rfl, e4, e5, e6⟩, hD, hO0, hP0, hT0, hM.1, ⟨tc', r4, rfl⟩, Or.inr ⟨nI_pos' (by omega), ?_, r3, ?_⟩⟩
      · unfold f_L_run f_X8_run
        rw [if_neg (show ¬ (1 : Int32) = 0 by decide), if_neg hx, r1]
        rfl
      · intro h
        have := nI_pos (n := e) (by omega)
        rw [h] at this
        exact this (by decide)
      · intro h
        exact r7 ((nI_eq (b := 0) (by omega) (by omega)).mp (by rw [h, nI_0]))
end P9C
