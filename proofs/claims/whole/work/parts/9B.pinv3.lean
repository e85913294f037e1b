/-! PURE SIDE: home, look, poke, run, value, cell, traced, length and steps keep the invariant. -/
section P9B
variable {n c co cq : Nat} {da db dd dk oa ob od ok pa pb pd pk ho bg me ga gb gd9 gk gs hoM bgM mm ga' gb' gd' gk' : Nat → Int32} {dc oc pc tk al tc en rt va : Int32} {fo : Nat → Int64}
theorem rg_tf (x : Int32) : rgI x = false ∨ ∃ j, j < 8 ∧ x = nI j := by
  cases h : rgI x with
  | false => exact Or.inl rfl
  | true => exact Or.inr (rg_of h)
theorem PrI_al (h : PrI al cq pa pb pd pk ga gb gd9 gk ho hoM) : al = 0 ∨ al = 1 := by
  obtain ⟨kp, -, h | h⟩ := h
  · exact Or.inl h.1
  · exact Or.inr h.1
theorem sim_home (I : PInv da db dd dk dc oa ob od ok oc pa pb pd pk pc tk al ho bg me tc en rt ga gb gd9 gk gs hoM bgM mm va) (fo : Nat → Int64) (v x1 : Int32) :
    ∃ k fo' b, f_L_home ho al fo x1 = some (k, fo') ∧ f_X9_home hoM v al x1 = some (b, k) ∧ (k = 0 → fo' 0 = b.toInt64) := by
  obtain ⟨c, co, cq, ⟨e1, e2, e3, e4, e5, e6⟩, hD, hO, hP, hT, hM⟩ := I
  rcases rg_tf x1 with h | ⟨j, hj, rfl⟩
  · refine ⟨1, fo, 0, ?_, m_home_bad (PrI_al hP) h, fun h => absurd h (by decide)⟩
    unfold f_L_home
    rw [s_home_bad h]
    rfl
  · obtain ⟨kp, -, h | ⟨rfl, -, -, -, hm, r1, r2⟩⟩ := hP
    · obtain ⟨rfl, -⟩ := h
      refine ⟨2, fo, 0, ?_, m_home_no (rg_nI hj), fun h => absurd h (by decide)⟩
      unfold f_L_home
      rw [s_home_no (rg_nI hj)]
      rfl
    · refine ⟨0, vp_updL fo ((0 : Int32)).toNatClampNeg (ho j).toInt64, hoM j, ?_, m_home_ok hj, fun _ => ?_⟩
      · unfold f_L_home
        rw [s_home_ok hj]
        rfl
      · rw [(r2 j hj).1, ← (r1 j hj).1]
        rfl
theorem sim_poke (I : PInv da db dd dk dc oa ob od ok oc pa pb pd pk pc tk al ho bg me tc en rt ga gb gd9 gk gs hoM bgM mm va) (v x1 x2 : Int32) :
    ∃ k bg' mm' bgM', f_L_poke bg x1 x2 = some (k, bg') ∧ f_X9_poke mm bgM v en x1 x2 = some (mm', bgM', k) ∧
      PInv da db dd dk dc oa ob od ok oc pa pb pd pk pc tk al ho bg' me tc en rt ga gb gd9 gk gs hoM bgM' mm' va := by
  have I0 := I
  obtain ⟨c, co, cq, e, hD, hO, hP, hT, hM⟩ := I
  rcases rg_tf x1 with h | ⟨j, hj, rfl⟩
  · refine ⟨1, bg, mm, bgM, ?_, m_poke_bad en h, I0⟩
    unfold f_L_poke
    rw [s_poke_bad h]
    rfl
  · refine ⟨0, upd bg j x2, if 0 ≤ en then mm else upd mm j x2, upd bgM j x2, ?_, m_poke_ok en hj, c, co, cq, e, hD, hO, hP, hT, ?_⟩
    · unfold f_L_poke
      rw [s_poke_ok hj]
      rfl
    · obtain ⟨h1, h2, h3⟩ := hM
      have hu : ∀ f g : Nat → Int32, Ag f g → Ag (upd f j x2) (upd g j x2) := fun f g h r hr => by
        by_cases q : r = j
        · rw [q, pk_us, pk_us]
        · rw [pk_un q, pk_un q]; exact h r hr
      refine ⟨hu _ _ h1, h2, ?_⟩
      rcases h3 with ⟨rfl, h3⟩ | ⟨h4, h5, h6⟩
      · exact Or.inl ⟨rfl, by rw [if_neg (by decide)]; exact hu _ _ h3⟩
      · exact Or.inr ⟨h4, h5, by rw [if_pos h4]; exact h6⟩
theorem sim_value (I : PInv da db dd dk dc oa ob od ok oc pa pb pd pk pc tk al ho bg me tc en rt ga gb gd9 gk gs hoM bgM mm va) (fo : Nat → Int64) (v : Int32) :
    ∃ k fo' b, f_L_value en rt fo = some (k, fo') ∧ f_X9_value v en va = some (b, k) ∧ (k = 0 → fo' 0 = b.toInt64) := by
  obtain ⟨c, co, cq, e, hD, hO, hP, hT, h1, h2, h3⟩ := I
  by_cases q : en = 0
  · rcases h3 with ⟨h3, -⟩ | ⟨-, -, -, h3⟩
    · rw [q] at h3; exact absurd h3 (by decide)
    · refine ⟨0, vp_updL fo ((0 : Int32)).toNatClampNeg rt.toInt64, va, ?_, by rw [m_value, if_pos q], fun _ => by rw [← h3 q]; rfl⟩
      unfold f_L_value
      rw [s_value, if_pos q]
      rfl
  · refine ⟨1, fo, 0, ?_, by rw [m_value, if_neg q], fun h => absurd h (by decide)⟩
    unfold f_L_value
    rw [s_value, if_neg q]
    rfl
theorem sim_cell (I : PInv da db dd dk dc oa ob od ok oc pa pb pd pk pc tk al ho bg me tc en rt ga gb gd9 gk gs hoM bgM mm va) (fo : Nat → Int64) (v x1 : Int32) :
    ∃ k fo' b, f_L_cell bg me en fo x1 = some (k, fo') ∧ f_X9_cell mm v x1 = some (b, k) ∧ (k = 0 → fo' 0 = b.toInt64) := by
  obtain ⟨c, co, cq, e, hD, hO, hP, hT, h1, h2, h3⟩ := I
  rcases rg_tf x1 with h | ⟨j, hj, rfl⟩
  · refine ⟨1, fo, 0, ?_, m_cell_bad h, fun h => absurd h (by decide)⟩
    unfold f_L_cell
    rw [s_cell_bad en h]
    rfl
  · refine ⟨0, vp_updL fo ((0 : Int32)).toNatClampNeg (if en = -1 then bg j else me j).toInt64, mm j, ?_, m_cell_ok hj, fun _ => ?_⟩
    · unfold f_L_cell
      rw [s_cell_ok en hj]
      rfl
    · rcases h3 with ⟨rfl, h3⟩ | ⟨h4, h5, h6, h7⟩
      · rw [if_pos rfl, ← h3 j hj]
        rfl
      · rw [if_neg h5, ← h6 j hj]
        rfl
theorem sim_traced {tr : Nat → Int32} (I : PInv da db dd dk dc oa ob od ok oc pa pb pd pk pc tk al ho bg me tc en rt ga gb gd9 gk gs hoM bgM mm va) (fo : Nat → Int64) (v x1 : Int32) :
    ∃ k fo' b, f_L_traced tr tc fo x1 = some (k, fo') ∧ f_X9_traced tr v tc x1 = some (b, k) ∧ (k = 0 → fo' 0 = b.toInt64) := by
  obtain ⟨c, co, cq, e, hD, hO, hP, hT, h1, ⟨t, ht, rfl⟩, h3⟩ := I
  rcases s_traced (f := tr) (v := v) ht x1 with ⟨a1, a2⟩ | ⟨j, hj, rfl, a1, a2⟩
  · refine ⟨1, fo, 0, ?_, a2, fun h => absurd h (by decide)⟩
    unfold f_L_traced
    rw [a1]
    rfl
  · refine ⟨0, vp_updL fo ((0 : Int32)).toNatClampNeg (tr j).toInt64, tr j, ?_, a2, fun _ => rfl⟩
    unfold f_L_traced
    rw [a1]
    rfl
theorem sim_length (I : PInv da db dd dk dc oa ob od ok oc pa pb pd pk pc tk al ho bg me tc en rt ga gb gd9 gk gs hoM bgM mm va) (v x1 : Int32) :
    ∃ r, f_X8_length oc pc x1 = some r ∧ f_X9_length gs v x1 = some (r, 0) := by
  obtain ⟨c, co, cq, ⟨e1, e2, e3, e4, e5, e6⟩, -⟩ := I
  subst e2 e3
  exact len_both e4 e5 x1
theorem sim_look (I : PInv da db dd dk dc oa ob od ok oc pa pb pd pk pc tk al ho bg me tc en rt ga gb gd9 gk gs hoM bgM mm va) (fo : Nat → Int64) (v x1 x2 x3 : Int32) :
    ∃ k fo' b, f_L_look 24 96 oa ob od ok pa pb pd pk oc pc fo x1 x2 x3 = some (k, fo') ∧ f_X9_look ga gb gd9 gk gs v x1 x2 x3 = some (b, k) ∧ (k = 0 → fo' 0 = b.toInt64) := by
  obtain ⟨c, co, cq, ⟨e1, e2, e3, e4, e5, e6⟩, hD, ⟨hc, ko, ho1, w, hAE⟩, hP, hT, hM⟩ := I
  subst e2 e3
  have hcq := PrI_le hP
  obtain ⟨kp, hB, -⟩ := hP
  rcases look_both (Lo := 24) (Lp := 96) (v := v) (oa := oa) (ob := ob) (od := od) (ok := ok) (pa := pa) (pb := pb) (pd := pd) (pk := pk) (ga := ga) (gb := gb) (gd9 := gd9) (gk := gk) hc (by decide) hcq (by decide) (by omega) (by omega) e4 e5
    (fun i hi => by obtain ⟨h1, h2, h3⟩ := ho1 i hi; exact ⟨by rw [h1, h2], h3⟩)
    (fun i hi => by obtain ⟨h1, h2, h3⟩ := hB i hi; exact ⟨by rw [h1, h2], h3⟩) x1 x2 x3 with ⟨a1, a2⟩ | ⟨a1, a2⟩ | ⟨r, a1, a2⟩
  · refine ⟨1, fo, 0, ?_, a2, fun h => absurd h (by decide)⟩
    unfold f_L_look
    rw [a1]
    rfl
  · refine ⟨2, fo, 0, ?_, a2, fun h => absurd h (by decide)⟩
    unfold f_L_look
    rw [a1]
    rfl
  · refine ⟨0, vp_updL fo ((0 : Int32)).toNatClampNeg r.toInt64, r, ?_, a2, fun _ => rfl⟩
    unfold f_L_look
    rw [a1]
    rfl
end P9B
