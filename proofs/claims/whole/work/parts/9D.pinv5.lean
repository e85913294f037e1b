/-! PURE SIDE: pass keeps the invariant. -/
section P9D
variable {n c co cq : Nat} {da db dd dk oa ob od ok pa pb pd pk ho bg me ga gb gd9 gk gs hoM bgM mm ga' gb' gd' gk' : Nat → Int32} {dc oc pc tk al tc en rt va : Int32} {fo : Nat → Int64}
theorem FrP_cpy (f g : Nat → Int32) (hc : c ≤ 24) : FrP g (va_cpy f g 0 100 c) := fun x h => pk_cpy_out (by omega)
theorem FrP_Fr {f g : Nat → Int32} (hc : c ≤ 24) (h : Fr c f g) : FrP f g := fun x q => h x (by omega)
theorem pr_cpy {K' : Nat → Nat} {D' A' B' : Nat → Int32} (hc : c ≤ 24) (w : WP c K' D' A' B') (hA : Ann c K' D' A' B') (hE : En c K' D') :
    PrI 0 c (va_cpy A' pa 0 0 c) (va_cpy B' pb 0 0 c) (va_cpy D' pd 0 0 c) (va_cpy (fun x => nI (K' x)) pk 0 0 c) (va_cpy A' ga 0 100 c) (va_cpy B' gb 0 100 c) (va_cpy D' gd9 0 100 c) (va_cpy (fun x => nI (K' x)) gk 0 100 c) ho hoM := by
  refine ⟨K', fun i hi => ?_, Or.inl ⟨rfl, hc, WP_cong (fun i hi => ⟨cp00 _ _ hi, cp00 _ _ hi, cp00 _ _ hi⟩) w, fun _ => ⟨Ann_cong (fun i hi => ⟨cp00 _ _ hi, cp00 _ _ hi, cp00 _ _ hi⟩) hA, En_cong (fun i hi => cp00 _ _ hi) hE⟩⟩⟩
  rw [cp00 _ _ hi, cp00 _ _ hi, cp00 _ _ hi, cp00 _ _ hi, cpy_hi _ _ hi, cpy_hi _ _ hi, cpy_hi _ _ hi, cpy_hi _ _ hi]
  exact ⟨rfl, rfl, rfl, rfl, rfl⟩
theorem pinv_present {cq2 : Nat} {pc2 : Int32} {pa2 pb2 pd2 pk2 ga2 gb2 gd2 gk2 gs2 : Nat → Int32} {c : Nat} (e1 : dc = nI c) (e2 : oc = nI co) (e4 : gs 0 = nI co) (e6 : gs 2 = nI c) (hD : DrI c da db dd dk ga gb gd9 gk) (hO : OrI co oa ob od ok ga gb gd9 gk) (hM : MaI bg me bgM mm tc en rt va)
    (f1 : FrP ga ga2) (f2 : FrP gb gb2) (f3 : FrP gd9 gd2) (f4 : FrP gk gk2) (hpc : pc2 = nI cq2) (g1 : gs2 1 = nI cq2) (g2 : ∀ x, x ≠ 1 → x ≠ 3 → gs2 x = gs x) (h0 : 0 < co) {al2 : Int32} {ho2 hoM2 : Nat → Int32} (h1 : al2 = 0 → 0 < cq2) (hP : PrI al2 cq2 pa2 pb2 pd2 pk2 ga2 gb2 gd2 gk2 ho2 hoM2) :
    PInv da db dd dk dc oa ob od ok oc pa2 pb2 pd2 pk2 pc2 1 al2 ho2 bg me tc en rt ga2 gb2 gd2 gk2 gs2 hoM2 bgM mm va := by
  refine ⟨c, co, cq2, ⟨e1, e2, hpc, ?_, g1, ?_⟩, DrI_fr (fun x a b => f1 x (by omega)) (fun x a b => f2 x (by omega)) (fun x a b => f3 x (by omega)) (fun x a b => f4 x (by omega)) hD, OrI_fr (fun x a => f1 x (by omega)) (fun x a => f2 x (by omega)) (fun x a => f3 x (by omega)) (fun x a => f4 x (by omega)) hO, hP, Or.inr ⟨rfl, h0, h1⟩, hM⟩
  · rw [g2 0 (by decide) (by decide)]; exact e4
  · rw [g2 2 (by decide) (by decide)]; exact e6
theorem pass_of {x : Int32} (h : ¬ (x < 0 ∨ ¬ x ≤ 3)) : x = 0 ∨ x = 1 ∨ x = 2 ∨ x = 3 := by
  rw [not_or, Decidable.not_not] at h
  obtain ⟨j, hj, rfl⟩ := nI_of2 (M := 3) (n := 3) (by decide) h.1 h.2
  rcases (show j = 0 ∨ j = 1 ∨ j = 2 ∨ j = 3 by omega) with rfl | rfl | rfl | rfl
  · exact Or.inl (by decide)
  · exact Or.inr (Or.inl (by decide))
  · exact Or.inr (Or.inr (Or.inl (by decide)))
  · exact Or.inr (Or.inr (Or.inr (by decide)))
variable {fl kn nu re bf lv pl eK eV eX eY hl dn hlM knM mk nuM plM reM se vK vO vW : Nat → Int32} {fkn ch ets nv v chM vals bb x1 : Int32}
theorem s_pass_bad (h : x1 < 0 ∨ ¬ x1 ≤ 3) : f_L_pass n 96 fl kn nu re bf lv pl pa pb pd pk eK eV eX eY hl tk al fkn ch pc ets nv fo x1 = some (1, fo, fl, kn, nu, re, bf, lv, pl, pa, pb, pd, pk, eK, eV, eX, eY, hl, fkn, ch, pc, ets, nv) := by
  unfold f_L_pass f_X8_pass
  by_cases q : x1 < 0
  · rw [if_pos q]; rfl
  · rw [if_neg q, if_neg (h.resolve_left q)]; rfl
theorem s_pass_no (h : ¬ (x1 < 0 ∨ ¬ x1 ≤ 3)) (hn : tk = 0 ∨ ¬ al = 0) : f_L_pass n 96 fl kn nu re bf lv pl pa pb pd pk eK eV eX eY hl tk al fkn ch pc ets nv fo x1 = some (2, fo, fl, kn, nu, re, bf, lv, pl, pa, pb, pd, pk, eK, eV, eX, eY, hl, fkn, ch, pc, ets, nv) := by
  rw [not_or, Decidable.not_not] at h
  unfold f_L_pass f_X8_pass
  rw [if_neg h.1, if_pos h.2]
  by_cases q : tk = 0
  · rw [if_pos q]; rfl
  · rw [if_neg q, if_neg (hn.resolve_left q)]; rfl
theorem m_pass_thr (p q : Bool) (h : (p || q) = true) : f_X9_pass_25 n ga gb gd9 dn hlM gk knM mk nuM plM reM se gs vK vO vW v tk al chM vals bb x1 (b2i p) (b2i q) = some (0, ga, gb, gd9, dn, hlM, gk, knM, mk, nuM, plM, reM, se, gs, vK, vO, vW, if p = true then 1 else 2, chM, vals, bb) := by
  unfold f_X9_pass_25
  rw [m_throwing, h, Option.bind_some, if_neg (show ¬ (b2i true, if p = true then (1 : Int32) else if q = true then 2 else 0).1 = 0 from show ¬ b2i true = 0 by decide)]
  cases p with
  | true => rfl
  | false =>
    have : q = true := by simpa using h
    subst this
    rfl
theorem out4 (h : x1 < 0 ∨ ¬ x1 ≤ 3) : f_X9_out x1 4 = some (b2i true) := by
  rw [m_out]
  by_cases q : x1 < 0
  · simp [q]
  · have h3 := h.resolve_left q
    have : ¬ x1 < 4 := by
      intro h4
      obtain ⟨j, hj, rfl⟩ := nI_of q
      have h5 : j < 4 := (nI_ltI hj (by decide)).mp h4
      exact h3 (nI_le (b := 3) (by omega) (by decide))
    simp [this]
theorem out4n (h : ¬ (x1 < 0 ∨ ¬ x1 ≤ 3)) : f_X9_out x1 4 = some (b2i false) := by
  rcases pass_of h with rfl | rfl | rfl | rfl <;> decide +kernel
theorem m_pass_bad (h : x1 < 0 ∨ ¬ x1 ≤ 3) : f_X9_pass n ga gb gd9 dn hlM gk knM mk nuM plM reM se gs vK vO vW v tk al chM vals bb x1 = some (0, ga, gb, gd9, dn, hlM, gk, knM, mk, nuM, plM, reM, se, gs, vK, vO, vW, 1, chM, vals, bb) := by
  unfold f_X9_pass
  rw [out4 h, Option.bind_some]
  by_cases q : tk = 0
  · rw [if_pos q]; exact m_pass_thr true true rfl
  · rw [if_neg q]
    by_cases q2 : al = 0
    · rw [if_pos q2]; exact m_pass_thr true false rfl
    · rw [if_neg q2]; exact m_pass_thr true true rfl
theorem m_pass_no (h : ¬ (x1 < 0 ∨ ¬ x1 ≤ 3)) (hn : tk = 0 ∨ ¬ al = 0) : f_X9_pass n ga gb gd9 dn hlM gk knM mk nuM plM reM se gs vK vO vW v tk al chM vals bb x1 = some (0, ga, gb, gd9, dn, hlM, gk, knM, mk, nuM, plM, reM, se, gs, vK, vO, vW, 2, chM, vals, bb) := by
  unfold f_X9_pass
  rw [out4n h, Option.bind_some]
  by_cases q : tk = 0
  · rw [if_pos q]; exact m_pass_thr false true rfl
  · rw [if_neg q, if_neg (hn.resolve_left q)]; exact m_pass_thr false true rfl
theorem m_pass_go (h : ¬ (x1 < 0 ∨ ¬ x1 ≤ 3)) : f_X9_pass n ga gb gd9 dn hlM gk knM mk nuM plM reM se gs vK vO vW v 1 0 chM vals bb x1 = f_X9_pass_25 n ga gb gd9 dn hlM gk knM mk nuM plM reM se gs vK vO vW v 1 0 chM vals bb x1 0 0 := by
  unfold f_X9_pass
  rw [out4n h, Option.bind_some, if_neg (show ¬ (1 : Int32) = 0 by decide), if_pos (show (0 : Int32) = 0 from rfl)]
  rfl
end P9D
