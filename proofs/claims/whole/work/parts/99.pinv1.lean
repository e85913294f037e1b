/-! PURE SIDE: the state invariant; instruction, take, restore. -/
def DrI (c : Nat) (da db dd dk ga gb gd9 gk : Nat → Int32) : Prop := c ≤ 24 ∧ ∃ kd : Nat → Nat, ∀ i, i < c → dk i = nI (kd i) ∧ gk (200 + i) = nI (kd i) ∧ gd9 (200 + i) = dd i ∧ ga (200 + i) = da i ∧ gb (200 + i) = db i ∧ WI 23 (kd i) (dd i) (da i) (db i)
def OrI (co : Nat) (oa ob od ok ga gb gd9 gk : Nat → Int32) : Prop := co ≤ 24 ∧ ∃ ko : Nat → Nat, (∀ i, i < co → ok i = nI (ko i) ∧ gk i = nI (ko i) ∧ gd9 i = od i ∧ ga i = oa i ∧ gb i = ob i) ∧ WP co ko od oa ob ∧ (0 < co → Ann co ko od oa ob ∧ En co ko od)
def PrI (al : Int32) (cq : Nat) (pa pb pd pk ga gb gd9 gk ho hoM : Nat → Int32) : Prop := ∃ kp : Nat → Nat, Both cq kp pa pb pd pk ga gb gd9 gk ∧
  ((al = 0 ∧ cq ≤ 24 ∧ WP cq kp pd pa pb ∧ (0 < cq → Ann cq kp pd pa pb ∧ En cq kp pd)) ∨
   (al = 1 ∧ cq ≤ 96 ∧ (∀ i, i < cq → WA (kp i) (pd i) (pa i) (pb i)) ∧ NF cq kp pd pa pb ∧ ∃ hm, RelN hm 8 ho ∧ RelN hm 8 hoM))
def TkI (tk al : Int32) (co cq : Nat) : Prop := (tk = 0 ∧ al = 0 ∧ co = 0 ∧ cq = 0) ∨ (tk = 1 ∧ 0 < co ∧ (al = 0 → 0 < cq))
def MaI (bg me bgM mm : Nat → Int32) (tc en rt va : Int32) : Prop := Ag bg bgM ∧ (∃ t, t ≤ 16 ∧ tc = nI t) ∧ ((en = -1 ∧ Ag bg mm) ∨ (0 ≤ en ∧ ¬ en = -1 ∧ Ag me mm ∧ (en = 0 → rt = va)))
def PInv (da db dd dk : Nat → Int32) (dc : Int32) (oa ob od ok : Nat → Int32) (oc : Int32) (pa pb pd pk : Nat → Int32) (pc : Int32) (tk al : Int32) (ho bg me : Nat → Int32) (tc en rt : Int32) (ga gb gd9 gk gs hoM bgM mm : Nat → Int32) (va : Int32) : Prop :=
  ∃ c co cq : Nat, (dc = nI c ∧ oc = nI co ∧ pc = nI cq ∧ gs 0 = nI co ∧ gs 1 = nI cq ∧ gs 2 = nI c) ∧ DrI c da db dd dk ga gb gd9 gk ∧ OrI co oa ob od ok ga gb gd9 gk ∧ PrI al cq pa pb pd pk ga gb gd9 gk ho hoM ∧ TkI tk al co cq ∧ MaI bg me bgM mm tc en rt va
section P99
variable {c co cq : Nat} {da db dd dk oa ob od ok pa pb pd pk ho bg me ga gb gd9 gk gs hoM bgM mm ga' gb' gd' gk' : Nat → Int32} {dc oc pc tk al tc en rt va : Int32} {fo : Nat → Int64}
theorem DrI_fr (ha : ∀ x, 200 ≤ x → x < 224 → ga' x = ga x) (hb : ∀ x, 200 ≤ x → x < 224 → gb' x = gb x) (hd : ∀ x, 200 ≤ x → x < 224 → gd' x = gd9 x) (hk : ∀ x, 200 ≤ x → x < 224 → gk' x = gk x) (h : DrI c da db dd dk ga gb gd9 gk) : DrI c da db dd dk ga' gb' gd' gk' := by
  obtain ⟨hc, kd, h⟩ := h
  refine ⟨hc, kd, fun i hi => ?_⟩
  obtain ⟨h1, h2, h3, h4, h5, h6⟩ := h i hi
  exact ⟨h1, by rw [hk _ (by omega) (by omega)]; exact h2, by rw [hd _ (by omega) (by omega)]; exact h3, by rw [ha _ (by omega) (by omega)]; exact h4, by rw [hb _ (by omega) (by omega)]; exact h5, h6⟩
theorem OrI_fr (ha : ∀ x, x < 24 → ga' x = ga x) (hb : ∀ x, x < 24 → gb' x = gb x) (hd : ∀ x, x < 24 → gd' x = gd9 x) (hk : ∀ x, x < 24 → gk' x = gk x) (h : OrI co oa ob od ok ga gb gd9 gk) : OrI co oa ob od ok ga' gb' gd' gk' := by
  obtain ⟨hc, kd, h, hr⟩ := h
  refine ⟨hc, kd, fun i hi => ?_, hr⟩
  obtain ⟨h1, h2, h3, h4, h5⟩ := h i hi
  exact ⟨h1, by rw [hk _ (by omega)]; exact h2, by rw [hd _ (by omega)]; exact h3, by rw [ha _ (by omega)]; exact h4, by rw [hb _ (by omega)]; exact h5⟩
theorem Both_fr {kp : Nat → Nat} (ha : ∀ x, 100 ≤ x → x < 200 → ga' x = ga x) (hb : ∀ x, 100 ≤ x → x < 200 → gb' x = gb x) (hd : ∀ x, 100 ≤ x → x < 200 → gd' x = gd9 x) (hk : ∀ x, 100 ≤ x → x < 200 → gk' x = gk x) (hc : cq ≤ 96) (h : Both cq kp pa pb pd pk ga gb gd9 gk) : Both cq kp pa pb pd pk ga' gb' gd' gk' := by
  intro i hi
  obtain ⟨h1, h2, h3, h4, h5⟩ := h i hi
  exact ⟨h1, by rw [hk _ (by omega) (by omega)]; exact h2, by rw [hd _ (by omega) (by omega)]; exact h3, by rw [ha _ (by omega) (by omega)]; exact h4, by rw [hb _ (by omega) (by omega)]; exact h5⟩
theorem PrI_le (h : PrI al cq pa pb pd pk ga gb gd9 gk ho hoM) : cq ≤ 96 := by
  obtain ⟨kp, -, h | h⟩ := h
  · omega
  · omega
theorem PrI_fr (ha : ∀ x, 100 ≤ x → x < 200 → ga' x = ga x) (hb : ∀ x, 100 ≤ x → x < 200 → gb' x = gb x) (hd : ∀ x, 100 ≤ x → x < 200 → gd' x = gd9 x) (hk : ∀ x, 100 ≤ x → x < 200 → gk' x = gk x) (h : PrI al cq pa pb pd pk ga gb gd9 gk ho hoM) : PrI al cq pa pb pd pk ga' gb' gd' gk' ho hoM := by
  have hc := PrI_le h
  obtain ⟨kp, hB, h⟩ := h
  exact ⟨kp, Both_fr ha hb hd hk hc hB, h⟩
theorem fit_WI {k : Nat} {x2 x3 x4 : Int32} (hk : k ≤ 12) (h : fitI k x2 x3 x4 = true) : WI 23 k (kpD k x2) (kpA k x3) (kpB k x4) := by
  unfold fitI at h
  rw [Bool.and_eq_true, Bool.and_eq_true, Bool.and_eq_true] at h
  obtain ⟨hg, hw, ha, hb⟩ := h
  refine ⟨hk, fun q => ?_, fun q => ?_, fun q => ?_, fun q => ?_, fun q => ?_, fun q => ?_, fun q => ?_⟩
  · rw [q] at hw
    have hw : rgI x2 = true := hw
    obtain ⟨j, hj, e⟩ := rg_of hw
    exact ⟨j, hj, by unfold kpD; rw [q]; exact e⟩
  · rw [q] at ha
    have ha : rgI x3 = true := ha
    obtain ⟨j, hj, e⟩ := rg_of ha
    exact ⟨j, hj, by unfold kpA; rw [q]; exact e⟩
  · rw [q] at hb
    have hb : rgI x4 = true := hb
    obtain ⟨j, hj, e⟩ := rg_of hb
    exact ⟨j, hj, by unfold kpB; rw [q]; exact e⟩
  · rw [q] at hg
    have hg : (!decide (x2 < 0) && decide (x2 < 24)) = true := hg
    rw [Bool.and_eq_true] at hg
    have h1 : ¬ x2 < 0 := by simpa using hg.1
    have h2 : x2 < 24 := by simpa using hg.2
    obtain ⟨j, hj, rfl⟩ := nI_of h1
    have h3 : j < 24 := (nI_ltI hj (by decide)).mp h2
    exact ⟨j, by omega, by unfold kpD; rw [q, Bool.or_true]; rfl⟩
  · unfold kpD; rw [q]; rfl
  · unfold kpA; rw [q]; rfl
  · unfold kpB; rw [q]; rfl
theorem sim_instr (I : PInv da db dd dk dc oa ob od ok oc pa pb pd pk pc tk al ho bg me tc en rt ga gb gd9 gk gs hoM bgM mm va) (fo : Nat → Int64) (v x1 x2 x3 x4 : Int32) :
    ∃ k fo' da' db' dd' dk' dc' b ga' gb' gd' gk' gs', f_L_instruction 24 da db dd dk dc fo x1 x2 x3 x4 = some (k, fo', da', db', dd', dk', dc') ∧ f_X9_instruction ga gb gd9 gk gs v x1 x2 x3 x4 = some (b, ga', gb', gd', gk', gs', k) ∧ (k = 0 → fo' 0 = b.toInt64) ∧
      PInv da' db' dd' dk' dc' oa ob od ok oc pa pb pd pk pc tk al ho bg me tc en rt ga' gb' gd' gk' gs' hoM bgM mm va := by
  have I0 := I
  obtain ⟨c, co, cq, ⟨e1, e2, e3, e4, e5, e6⟩, hD, hO, hP, hT, hM⟩ := I
  subst e1
  have hc := hD.1
  by_cases hx : x1 < 0 ∨ ¬ x1 ≤ 12
  · have hf := s_fitsNo hx x2 x3 x4
    refine ⟨1, fo, da, db, dd, dk, nI c, 0, ga, gb, gd9, gk, gs, ?_, m_instr_bad e6 hc v x2 x3 x4 hf, fun h => absurd h (by decide), I0⟩
    unfold f_L_instruction
    rw [s_instr_bad hf]
    rfl
  · obtain ⟨k, hk, rfl⟩ := kind_of hx
    cases hfit : fitI k x2 x3 x4 with
    | false =>
      have hf : f_X2_fitsDraft (nI k) x2 x3 x4 = some 0 := by rw [s_fitsDraft hk, hfit]; rfl
      refine ⟨1, fo, da, db, dd, dk, nI c, 0, ga, gb, gd9, gk, gs, ?_, m_instr_bad e6 hc v x2 x3 x4 hf, fun h => absurd h (by decide), I0⟩
      unfold f_L_instruction
      rw [s_instr_bad hf]
      rfl
    | true =>
      by_cases hc24 : c < 24
      · refine ⟨0, vp_updL fo ((0 : Int32)).toNatClampNeg (nI c).toInt64, upd da c (kpA k x3), upd db c (kpB k x4), upd dd c (kpD k x2), upd dk c (nI k), nI (c + 1), nI c, upd ga (200 + c) (kpA k x3), upd gb (200 + c) (kpB k x4), upd gd9 (200 + c) (kpD k x2), upd gk (200 + c) (nI k), upd gs 2 (nI (c + 1)), ?_, m_instr_ok hk e6 hc24 v x2 x3 x4 hfit, fun _ => rfl, ?_⟩
        · unfold f_L_instruction
          rw [s_instr_ok hk x2 x3 x4 hfit hc24 hc24 (by decide)]
          rfl
        · refine ⟨c + 1, co, cq, ⟨rfl, e2, e3, ?_, ?_, pk_us⟩, ⟨by omega, ?_⟩, OrI_fr ?_ ?_ ?_ ?_ hO, PrI_fr ?_ ?_ ?_ ?_ hP, hT, hM⟩
          · rw [pk_un (by decide)]; exact e4
          · rw [pk_un (by decide)]; exact e5
          · obtain ⟨-, kd, hd⟩ := hD
            refine ⟨fun i => if i = c then k else kd i, fun i hi => ?_⟩
            by_cases q : i = c
            · subst q
              simp only [if_pos, pk_us]
              exact ⟨trivial, trivial, trivial, trivial, trivial, fit_WI hk hfit⟩
            · have q2 : 200 + i ≠ 200 + c := by omega
              simp only [if_neg q, pk_un q, pk_un q2]
              exact hd i (by omega)
          all_goals (intro x hx1; try intro hx2)
          all_goals exact pk_un (by omega)
      · have : c = 24 := by omega
        subst this
        refine ⟨2, fo, da, db, dd, dk, nI 24, 0, ga, gb, gd9, gk, gs, ?_, m_instr_full hk e6 v x2 x3 x4 hfit, fun h => absurd h (by decide), I0⟩
        unfold f_L_instruction
        rw [s_instr_full hk x2 x3 x4 hfit]
        rfl
end P99
