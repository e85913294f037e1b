/-! PURE SIDE: allocate keeps the invariant; the first state. -/
section P9F
variable {n c co cq : Nat} {da db dd dk oa ob od ok pa pb pd pk ho bg me ga gb gd9 gk gs hoM bgM mm ga' gb' gd' gk' : Nat → Int32} {dc oc pc tk al tc en rt va : Int32} {fo : Nat → Int64}
variable {cf sa sb sd sk sts bf dn pl se : Nat → Int32} {sl vs v slM x1 : Int32}
theorem al_of {x : Int32} (h : ¬ (x < 2 ∨ ¬ x ≤ 8)) : ∃ K, 2 ≤ K ∧ K ≤ 8 ∧ x = nI K := by
  rw [not_or, Decidable.not_not] at h
  have h0 : ¬ x < 0 := fun q => h.1 (Int32.lt_trans q (by decide))
  obtain ⟨j, hj, rfl⟩ := nI_of2 (M := 8) (n := 8) (by decide) h0 h.2
  refine ⟨j, ?_, hj, rfl⟩
  rcases Nat.lt_or_ge j 2 with q | q
  · exact absurd (nI_lt (b := 2) q (by decide)) h.1
  · exact q
theorem sim_allocate (hn : 410 < n) (I : PInv da db dd dk dc oa ob od ok oc pa pb pd pk pc tk al ho bg me tc en rt ga gb gd9 gk gs hoM bgM mm va) (fo : Nat → Int64) (x1 : Int32) :
    ∃ k fo' cf' ho' sa' sb' sd' sk' sts' bf' pa' pb' pd' pk' al' sl' vs' pc' b ga' gb' gd' dn' hoM' gk' pl' se' gs' slM',
      f_L_allocate n 24 96 cf ho sa sb sd sk sts bf pa pb pd pk tk al sl vs pc fo x1 = some (k, fo', cf', ho', sa', sb', sd', sk', sts', bf', pa', pb', pd', pk', al', sl', vs', pc') ∧
      f_X9_allocate n ga gb gd9 dn hoM gk pl se gs v tk al slM x1 = some (b, ga', gb', gd', dn', hoM', gk', pl', se', gs', k, al', slM') ∧ (k = 0 → fo' 0 = b.toInt64) ∧
      PInv da db dd dk dc oa ob od ok oc pa' pb' pd' pk' pc' tk al' ho' bg me tc en rt ga' gb' gd' gk' gs' hoM' bgM mm va := by
  have I0 := I
  obtain ⟨c, co, cq, ⟨e1, e2, e3, e4, e5, e6⟩, hD, hO, hP, hT, hM⟩ := I
  by_cases hx : x1 < 2 ∨ ¬ x1 ≤ 8
  · refine ⟨1, fo, cf, ho, sa, sb, sd, sk, sts, bf, pa, pb, pd, pk, al, sl, vs, pc, 0, ga, gb, gd9, dn, hoM, gk, pl, se, gs, slM, ?_, m_al_bad hx, fun h => absurd h (by decide), I0⟩
    unfold f_L_allocate
    rw [s_al_bad hx]
    rfl
  · by_cases hno : tk = 0 ∨ ¬ al = 0
    · refine ⟨2, fo, cf, ho, sa, sb, sd, sk, sts, bf, pa, pb, pd, pk, al, sl, vs, pc, 0, ga, gb, gd9, dn, hoM, gk, pl, se, gs, slM, ?_, m_al_no hx hno, fun h => absurd h (by decide), I0⟩
      unfold f_L_allocate
      rw [s_al_no hx hno]
      rfl
    · rw [not_or, Decidable.not_not] at hno
      obtain ⟨ht, rfl⟩ := hno
      rcases hT with ⟨rfl, -⟩ | ⟨rfl, h0, hT⟩
      · exact absurd rfl ht
      · have hq0 := hT rfl
        have hPr := hP
        obtain ⟨kp, hB, ⟨-, hq, w, hAE⟩ | ⟨h, -⟩⟩ := hP
        · obtain ⟨hA, hE⟩ := hAE hq0
          subst e3
          obtain ⟨K, hK2, hK8, rfl⟩ := al_of hx
          have hJ : ∀ i, i < cq → goK (kp i) = true → ∃ t, t < cq ∧ pd i = nI t := fun i hi q => by
            obtain ⟨l, hl, -, -, -, hE5⟩ := hE
            obtain ⟨t, ht, et⟩ := (w i hi).2.2.2.2.1 q
            have h5 := hE5 i hi q
            rw [et] at h5
            have h6 : (nI t).toNatClampNeg ≤ l := h5
            rw [nI_clamp (by omega)] at h6
            exact ⟨t, by omega, et⟩
          obtain ⟨p, cf', ho', bf', dn', hoM', se', hL, hr⟩ := alloc_both (n := n) (Ls := 24) (L := 96) (c := cq) (kp := kp) (fa := pa) (fb := pb) (fd := pd) (fk := pk) (ga := ga) (gb := gb) (gd9 := gd9) (gk := gk) (fs := gs) (cf := cf) (ho := ho) (sa := sa) (sb := sb) (sd := sd) (sk := sk) (st := sts) (bf := bf) (dn := dn) (hoM := hoM) (pl := pl) (se := se) (sl := sl) (vs := vs) (v := v) (slM := slM) (K := K) (by omega) hq hq0 hK2 hK8 hq (by decide) (by decide) (by decide) e5 w hB hJ
          rcases hr with ⟨s, r1, r2⟩ | ⟨hm, s, c2, sa', sb', sd', sk', st', ea, eb, ed, ek, ga', gb', gd', gk', pl', fs', r1, r2, q1, q2, ⟨K', q3, q4, q5, q6, q7⟩, g1, g2, hF⟩
          · refine ⟨2, fo, cf', ho', sa, sb, sd, sk, sts, bf', pa, pb, pd, pk, 0, nI s, vs, nI cq, 0, ga, gb, gd9, dn', hoM', gk, pl, se', gs, nI s, ?_, r2, fun h => absurd h (by decide), ?_⟩
            · unfold f_L_allocate
              rw [r1]
              rfl
            · exact ⟨c, co, cq, ⟨e1, e2, rfl, e4, e5, e6⟩, hD, hO, ⟨kp, hB, Or.inl ⟨rfl, hq, w, hAE⟩⟩, Or.inr ⟨rfl, h0, hT⟩, hM⟩
          · obtain ⟨hc2, hrow, hB', f1, f2, f3, f4⟩ := hF
            obtain ⟨hWA, hNF⟩ := alloc_nf (p := p) (K := K) (K' := K') (s := s) hq w hL ⟨q3, q4, q5, q6, q7, hK2, hK8⟩ hJ (ann_nf (by omega) hq0 w hA) hc2 hrow
            have hle : c2 ≤ 96 := by
              rw [hc2]
              exact Nat.le_trans (st_4 cq) (show 4 * cq ≤ 96 by omega)
            refine ⟨0, vp_updL fo ((0 : Int32)).toNatClampNeg (nI s).toInt64, cf', ho', sa', sb', sd', sk', st', bf', ea, eb, ed, ek, 1, nI s, nI cq, nI c2, nI s, ga', gb', gd', dn', hoM', gk', pl', se', fs', nI s, ?_, r2, fun _ => rfl, pinv_present e1 e2 e4 e6 hD hO hM f1 f2 f3 f4 rfl g1 g2 h0 (fun h => absurd h (by decide)) ⟨_, hB', Or.inr ⟨rfl, hle, hWA, hNF, hm, q1, q2⟩⟩⟩
            unfold f_L_allocate
            rw [r1]
            rfl
        · exact absurd h (by decide)
theorem pinv_0 : PInv (fun _ => 0) (fun _ => 0) (fun _ => 0) (fun _ => 0) 0 (fun _ => 0) (fun _ => 0) (fun _ => 0) (fun _ => 0) 0 (fun _ => 0) (fun _ => 0) (fun _ => 0) (fun _ => 0) 0 0 0 (fun _ => 0) (fun _ => 0) (fun _ => 0) 0 (-1) 0 (fun _ => 0) (fun _ => 0) (fun _ => 0) (fun _ => 0) (fun _ => 0) (fun _ => 0) (fun _ => 0) (fun _ => 0) 0 := by
  refine ⟨0, 0, 0, ⟨nI_0.symm, nI_0.symm, nI_0.symm, nI_0.symm, nI_0.symm, nI_0.symm⟩, ⟨by omega, fun _ => 0, fun i hi => absurd hi (by omega)⟩, ⟨by omega, fun _ => 0, fun i hi => absurd hi (by omega), fun i hi => absurd hi (by omega), fun h => absurd h (by omega)⟩, ⟨fun _ => 0, fun i hi => absurd hi (by omega), Or.inl ⟨rfl, by omega, fun i hi => absurd hi (by omega), fun h => absurd h (by omega)⟩⟩, Or.inl ⟨rfl, rfl, rfl, rfl⟩, fun _ _ => rfl, ⟨0, by omega, nI_0.symm⟩, Or.inl ⟨rfl, fun _ _ => rfl⟩⟩
end P9F
