/-! PURE SIDE: take and restore keep the invariant. -/
theorem okF_all {kp : Nat → Nat} {fd : Nat → Int32} {c : Nat} : ∀ (m j : Nat), okF kp fd c m j = true → ∀ i, j ≤ i → i < j + m → goK (kp i) = true → fd i < nI c
  | 0, j, _, i, h1, h2, _ => absurd h2 (by omega)
  | m + 1, j, h, i, h1, h2, hg => by
    unfold okF at h
    rw [Bool.and_eq_true] at h
    by_cases q : i = j
    · subst q
      have h3 := h.1
      rw [hg] at h3
      simpa using h3
    · exact okF_all m (j + 1) h.2 i (by omega) (by omega) hg
section P9A
variable {n c co cq : Nat} {da db dd dk oa ob od ok pa pb pd pk ho bg me ga gb gd9 gk gs hoM bgM mm ga' gb' gd' gk' : Nat → Int32} {dc oc pc tk al tc en rt va : Int32} {fo : Nat → Int64}
theorem cpt0 (f : Nat → Int32) {i c : Nat} (hi : i < c) (hc : c ≤ 24) : va_cpy (va_cpy f f 200 0 c) (va_cpy f f 200 0 c) 0 100 c i = f (200 + i) := by
  rw [pk_cpy_out (by omega), pk_cpy_in (by omega) (by omega)]
  congr 1
theorem cpt1 (f : Nat → Int32) {i c : Nat} (hi : i < c) (hc : c ≤ 24) : va_cpy (va_cpy f f 200 0 c) (va_cpy f f 200 0 c) 0 100 c (100 + i) = f (200 + i) := by
  rw [pk_cpy_in (by omega) (by omega), pk_cpy_in (by omega) (by omega)]
  congr 1
  omega
theorem cpr0 (f : Nat → Int32) {i c : Nat} (hi : i < 100) : va_cpy f f 0 100 c i = f i := pk_cpy_out (by omega)
theorem cpr2 (f : Nat → Int32) {i c : Nat} (hi : 200 ≤ i) (hc : c ≤ 24) : va_cpy f f 0 100 c i = f i := pk_cpy_out (by omega)
theorem cpr1 (f : Nat → Int32) {i c : Nat} (hi : i < c) : va_cpy f f 0 100 c (100 + i) = f i := by
  rw [pk_cpy_in (by omega) (by omega)]
  congr 1
  omega
theorem WP_cong {kp : Nat → Nat} {D A B D' A' B' : Nat → Int32} (h : ∀ i, i < c → D' i = D i ∧ A' i = A i ∧ B' i = B i) (w : WP c kp D A B) : WP c kp D' A' B' := by
  intro i hi
  obtain ⟨h1, h2, h3⟩ := h i hi
  rw [h1, h2, h3]
  exact w i hi
theorem cp00 (f g : Nat → Int32) {i c : Nat} (hi : i < c) : va_cpy f g 0 0 c i = f i := cpy_lo f g hi
theorem sim_take (hn : 410 < n) (I : PInv da db dd dk dc oa ob od ok oc pa pb pd pk pc tk al ho bg me tc en rt ga gb gd9 gk gs hoM bgM mm va) (fo : Nat → Int64) (v : Int32) :
    ∃ k fo' oa' ob' od' ok' pa' pb' pd' pk' tk' al' dc' oc' pc' b ga' gb' gd' gk' gs', f_L_take n 24 24 96 da db dd dk oa ob od ok pa pb pd pk tk al dc oc pc fo = some (k, fo', oa', ob', od', ok', pa', pb', pd', pk', tk', al', dc', oc', pc') ∧ f_X9_take n ga gb gd9 gk gs v tk al = some (b, ga', gb', gd', gk', gs', k, tk', al') ∧ (k = 0 → fo' 0 = b.toInt64) ∧
      PInv da db dd dk dc' oa' ob' od' ok' oc' pa' pb' pd' pk' pc' tk' al' ho bg me tc en rt ga' gb' gd' gk' gs' hoM bgM mm va := by
  obtain ⟨c, co, cq, ⟨e1, e2, e3, e4, e5, e6⟩, hD, hO, hP, hT, hM⟩ := I
  subst e1
  have hD0 := hD
  obtain ⟨hc, kd, hd⟩ := hD
  have hk : ∀ i, i < c → dk i = nI (kd i) ∧ kd i < 15 := fun i hi => ⟨(hd i hi).1, by have := (hd i hi).2.2.2.2.2.1; omega⟩
  have hkm : ∀ i, i < c → gk (200 + i) = nI (kd i) ∧ kd i < 15 := fun i hi => ⟨(hd i hi).2.1, (hk i hi).2⟩
  have hm := m_take_eq (n := n) (fa := ga) (fb := gb) (v := v) (tk := tk) (al := al) e6 hc hkm (fun i hi => (hd i hi).2.2.1) (by omega)
  cases hw : whF kd dd c with
  | false =>
    rw [hw, m_take_no] at hm
    refine ⟨1, fo, oa, ob, od, ok, pa, pb, pd, pk, tk, al, 0, oc, pc, 0, ga, gb, gd9, gk, upd gs 2 0, ?_, hm, fun h => absurd h (by decide), ?_⟩
    · unfold f_L_take
      rw [s_take_no (by omega) (by decide) hk (by omega) hw]
      rfl
    · refine ⟨0, co, cq, ⟨nI_0.symm, e2, e3, ?_, ?_, ?_⟩, ⟨by omega, kd, fun i hi => absurd hi (by omega)⟩, hO, hP, hT, hM⟩
      · rw [pk_un (by decide)]; exact e4
      · rw [pk_un (by decide)]; exact e5
      · rw [pk_us, nI_0]
  | true =>
    rw [hw, m_take_ok e6 hc (by omega)] at hm
    have h0 : 0 < c := by
      rcases Nat.eq_zero_or_pos c with q | q
      · rw [q] at hw; exact absurd (show false = true from hw) (by decide)
      · exact q
    obtain ⟨m, rfl⟩ : ∃ m, c = m + 1 := ⟨c - 1, by omega⟩
    have hw2 := hw
    unfold whF at hw2
    rw [Bool.and_eq_true] at hw2
    have hlast : kd (m + 1 - 1) = 9 ∨ kd (m + 1 - 1) = 12 := by
      have h1 := hw2.1
      rw [Bool.or_eq_true, beq_iff_eq, beq_iff_eq] at h1
      exact h1
    have hgo0 := okF_all _ _ hw2.2
    have hgo : ∀ i, i < m + 1 → goK (kd i) = true → ∃ t, t < m + 1 ∧ dd i = nI t := fun i hi q => by
      obtain ⟨t, ht, et⟩ := (hd i hi).2.2.2.2.2.2.2.2.2.1 q
      have h1 := hgo0 i (by omega) (by omega) q
      rw [et] at h1
      exact ⟨t, (nI_ltI (by omega) (by omega)).mp h1, et⟩
    have w : WP (m + 1) kd dd da db := fun i hi => by
      obtain ⟨w1, w2, w3, w4, w5, w6⟩ := (hd i hi).2.2.2.2.2
      refine ⟨w1, w2, w3, w4, fun q => ?_, w6⟩
      obtain ⟨t, ht, et⟩ := hgo i hi q
      exact ⟨t, by omega, et⟩
    obtain ⟨hA, hE⟩ := ann_orig h0 hc w hlast (fun i hi q => by
      obtain ⟨t, ht, et⟩ := hgo i hi q
      rw [et]
      show (nI t).toNatClampNeg < _
      rw [nI_clamp (by omega)]
      exact ht)
    have hcg : ∀ (f g h f' g' h' : Nat → Int32) i, i < m + 1 → va_cpy f f' 0 0 (m + 1) i = f i ∧ va_cpy g g' 0 0 (m + 1) i = g i ∧ va_cpy h h' 0 0 (m + 1) i = h i := fun f g h f' g' h' i hi => ⟨cp00 _ _ hi, cp00 _ _ hi, cp00 _ _ hi⟩
    refine ⟨0, vp_updL fo ((0 : Int32)).toNatClampNeg (nI (m + 1)).toInt64, va_cpy da oa 0 0 (m + 1), va_cpy db ob 0 0 (m + 1), va_cpy dd od 0 0 (m + 1), va_cpy dk ok 0 0 (m + 1), va_cpy da pa 0 0 (m + 1), va_cpy db pb 0 0 (m + 1), va_cpy dd pd 0 0 (m + 1), va_cpy dk pk 0 0 (m + 1), 1, 0, 0, nI (m + 1), nI (m + 1), nI (m + 1), _, _, _, _, _, ?_, hm, fun _ => rfl, ?_⟩
    · unfold f_L_take
      rw [s_take_ok (by omega) (by omega) (by omega) (by decide) (by decide) (by decide) hk (by omega) hw]
      rfl
    · refine ⟨0, m + 1, m + 1, ⟨nI_0.symm, rfl, rfl, ?_, ?_, ?_⟩, ⟨by omega, kd, fun i hi => absurd hi (by omega)⟩, ⟨hc, kd, fun i hi => ?_, WP_cong (hcg _ _ _ _ _ _) w, fun _ => ⟨Ann_cong (hcg _ _ _ _ _ _) hA, En_cong (fun i hi => cp00 _ _ hi) hE⟩⟩, ⟨kd, fun i hi => ?_, Or.inl ⟨rfl, hc, WP_cong (hcg _ _ _ _ _ _) w, fun _ => ⟨Ann_cong (hcg _ _ _ _ _ _) hA, En_cong (fun i hi => cp00 _ _ hi) hE⟩⟩⟩, Or.inr ⟨rfl, h0, fun _ => h0⟩, hM⟩
      · rw [pk_un (by decide), pk_un (by decide), pk_us]
      · rw [pk_us]
      · rw [pk_un (by decide), pk_us, nI_0]
      · obtain ⟨h1, h2, h3, h4, h5, -⟩ := hd i hi
        rw [cp00 _ _ hi, cp00 _ _ hi, cp00 _ _ hi, cp00 _ _ hi, cpt0 _ hi hc, cpt0 _ hi hc, cpt0 _ hi hc, cpt0 _ hi hc]
        exact ⟨h1, h2, h3, h4, h5⟩
      · obtain ⟨h1, h2, h3, h4, h5, -⟩ := hd i hi
        rw [cp00 _ _ hi, cp00 _ _ hi, cp00 _ _ hi, cp00 _ _ hi, cpt1 _ hi hc, cpt1 _ hi hc, cpt1 _ hi hc, cpt1 _ hi hc]
        exact ⟨h1, h2, h3, h4, h5⟩
theorem sim_restore (hn : 410 < n) (I : PInv da db dd dk dc oa ob od ok oc pa pb pd pk pc tk al ho bg me tc en rt ga gb gd9 gk gs hoM bgM mm va) (v : Int32) :
    ∃ k pa' pb' pd' pk' al' pc' ga' gb' gd' gk' gs', f_L_restore n 24 96 oa ob od ok pa pb pd pk tk al oc pc = some (k, pa', pb', pd', pk', al', pc') ∧ f_X9_restore n ga gb gd9 gk gs v tk al = some (ga', gb', gd', gk', gs', k, al') ∧
      PInv da db dd dk dc oa ob od ok oc pa' pb' pd' pk' pc' tk al' ho bg me tc en rt ga' gb' gd' gk' gs' hoM bgM mm va := by
  have I0 := I
  obtain ⟨c, co, cq, ⟨e1, e2, e3, e4, e5, e6⟩, hD, hO, hP, hT, hM⟩ := I
  rcases hT with ⟨rfl, rfl, hco, hcq⟩ | ⟨rfl, h0, hT⟩
  · refine ⟨1, pa, pb, pd, pk, 0, pc, ga, gb, gd9, gk, gs, ?_, m_restore_no v 0, I0⟩
    unfold f_L_restore
    rw [s_restore_no]
    rfl
  · subst e2
    obtain ⟨hc, ko, ho1, w, hAE⟩ := hO
    obtain ⟨hA, hE⟩ := hAE h0
    have hcg : ∀ (f g h f' g' h' : Nat → Int32) i, i < co → va_cpy f f' 0 0 co i = f i ∧ va_cpy g g' 0 0 co i = g i ∧ va_cpy h h' 0 0 co i = h i := fun f g h f' g' h' i hi => ⟨cp00 _ _ hi, cp00 _ _ hi, cp00 _ _ hi⟩
    refine ⟨0, va_cpy oa pa 0 0 co, va_cpy ob pb 0 0 co, va_cpy od pd 0 0 co, va_cpy ok pk 0 0 co, 0, nI co, va_cpy ga ga 0 100 co, va_cpy gb gb 0 100 co, va_cpy gd9 gd9 0 100 co, va_cpy gk gk 0 100 co, upd gs 1 (nI co), ?_, m_restore_ok v al e4 (by omega) (by omega), ?_⟩
    · unfold f_L_restore
      rw [s_restore_ok (by omega) (by omega) (by decide) (by decide) (by omega)]
      rfl
    · refine ⟨c, co, co, ⟨e1, rfl, rfl, ?_, pk_us, ?_⟩, DrI_fr ?_ ?_ ?_ ?_ hD, OrI_fr ?_ ?_ ?_ ?_ ⟨hc, ko, ho1, w, hAE⟩, ⟨ko, fun i hi => ?_, Or.inl ⟨rfl, hc, WP_cong (hcg _ _ _ _ _ _) w, fun _ => ⟨Ann_cong (hcg _ _ _ _ _ _) hA, En_cong (fun i hi => cp00 _ _ hi) hE⟩⟩⟩, Or.inr ⟨rfl, h0, fun _ => h0⟩, hM⟩
      · rw [pk_un (by decide)]; exact e4
      · rw [pk_un (by decide)]; exact e6
      · exact fun x h1 h2 => cpr2 _ h1 hc
      · exact fun x h1 h2 => cpr2 _ h1 hc
      · exact fun x h1 h2 => cpr2 _ h1 hc
      · exact fun x h1 h2 => cpr2 _ h1 hc
      · exact fun x h1 => cpr0 _ (by omega)
      · exact fun x h1 => cpr0 _ (by omega)
      · exact fun x h1 => cpr0 _ (by omega)
      · exact fun x h1 => cpr0 _ (by omega)
      · rw [cp00 _ _ hi, cp00 _ _ hi, cp00 _ _ hi, cp00 _ _ hi, cpr1 _ hi, cpr1 _ hi, cpr1 _ hi, cpr1 _ hi]
        exact ho1 i hi
end P9A
