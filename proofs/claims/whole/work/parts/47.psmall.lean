/-! PURE SIDE: home, poke, value, cell, traced. -/
theorem rg_of {x : Int32} (h : rgI x = true) : ∃ j, j < 8 ∧ x = nI j := by
  unfold rgI at h
  rw [Bool.and_eq_true] at h
  have h1 : ¬ x < 0 := by simpa using h.1
  have h2 : x < 8 := by simpa using h.2
  obtain ⟨j, hj, rfl⟩ := nI_of h1
  exact ⟨j, (nI_ltI hj (by decide)).mp h2, rfl⟩
theorem rg_nI {j : Nat} (h : j < 8) : rgI (nI j) = true := by
  unfold rgI
  have h1 : ¬ nI j < 0 := nI_pos (by omega)
  have h2 : nI j < 8 := nI_lt (b := 8) h (by decide)
  simp [h1, h2]
theorem m_out8 (x : Int32) : f_X9_out x 8 = some (b2i (!rgI x)) := by
  rw [m_out]
  congr 2
  unfold rgI
  cases decide (x < 0) <;> cases decide (x < 8) <;> rfl
theorem s_isCell (x : Int32) : f_X2_isCell x = some (b2i (rgI x)) := s_isRegister x
theorem pn_c {j : Nat} (h : j < 8) : (nI j).toNatClampNeg = j := nI_clamp (by omega)
section PSM
variable {f g : Nat → Int32} {v al x y : Int32} {j : Nat}
theorem s_home_bad (h : rgI x = false) : f_X8_home f al x = some (1, 0) := by
  unfold f_X8_home
  rw [s_isRegister, h]
  rfl
theorem s_home_no (h : rgI x = true) : f_X8_home f 0 x = some (3, 0) := by
  unfold f_X8_home
  rw [s_isRegister, h]
  rfl
theorem s_home_ok (hj : j < 8) : f_X8_home f 1 (nI j) = some (0, f j) := by
  unfold f_X8_home
  rw [s_isRegister, rg_nI hj]
  simp only [Option.bind_some, if_neg (show ¬ b2i true = 0 by decide), if_neg (show ¬ (1 : Int32) = 0 by decide), pn_gd hj (show 8 < 2 ^ 31 by decide), pn_c hj]
theorem m_home_bad (ha : al = 0 ∨ al = 1) (h : rgI x = false) : f_X9_home f v al x = some (0, 1) := by
  unfold f_X9_home
  rw [m_out8, h]
  rcases ha with rfl | rfl <;> rfl
theorem m_home_no (h : rgI x = true) : f_X9_home f v 0 x = some (0, 2) := by
  unfold f_X9_home
  rw [m_out8, h]
  rfl
theorem m_home_ok (hj : j < 8) : f_X9_home f v 1 (nI j) = some (f j, 0) := by
  unfold f_X9_home
  rw [m_out8, rg_nI hj]
  show f_X9_home_19 f v 1 (nI j) 0 0 = _
  unfold f_X9_home_19
  rw [show f_X9_throwing v (0 : Int32) (0 : Int32) = some (0, 0) from rfl]
  simp only [Option.bind_some, if_pos, pn_gd hj (show 8 < 2 ^ 31 by decide), pn_c hj]
theorem s_poke_bad (h : rgI x = false) : f_X8_poke f x y = some (1, f) := by
  unfold f_X8_poke
  rw [s_isCell, h]
  rfl
theorem s_poke_ok (hj : j < 8) : f_X8_poke f (nI j) y = some (0, upd f j y) := by
  unfold f_X8_poke
  rw [s_isCell, rg_nI hj]
  simp only [Option.bind_some, if_neg (show ¬ b2i true = 0 by decide), pn_gd hj (show 8 < 2 ^ 31 by decide), pn_c hj]
theorem m_poke_bad (en : Int32) (h : rgI x = false) : f_X9_poke f g v en x y = some (f, g, 1) := by
  unfold f_X9_poke
  rw [m_out8, h]
  rfl
theorem m_poke_ok (en : Int32) (hj : j < 8) : f_X9_poke f g v en (nI j) y = some (if 0 ≤ en then f else upd f j y, upd g j y, 0) := by
  unfold f_X9_poke
  rw [m_out8, rg_nI hj]
  simp only [Option.bind_some, Bool.not_true, b2i_f]
  rw [show f_X9_throwing v (0 : Int32) (0 : Int32) = some (0, 0) from rfl]
  simp only [Option.bind_some, if_pos, pn_gd hj (show 8 < 2 ^ 31 by decide), pn_c hj]
  by_cases h : 0 ≤ en <;> simp [h]
theorem s_cell_bad (en : Int32) (h : rgI x = false) : f_X8_cell f g en x = some (1, 0) := by
  unfold f_X8_cell
  rw [s_isCell, h]
  rfl
theorem s_cell_ok (en : Int32) (hj : j < 8) : f_X8_cell f g en (nI j) = some (0, if en = -1 then f j else g j) := by
  unfold f_X8_cell
  rw [s_isCell, rg_nI hj]
  simp only [Option.bind_some, if_neg (show ¬ b2i true = 0 by decide), pn_gd hj (show 8 < 2 ^ 31 by decide), pn_c hj]
  by_cases h : en = -1 <;> simp [h]
theorem m_cell_bad (h : rgI x = false) : f_X9_cell f v x = some (0, 1) := by
  unfold f_X9_cell
  rw [m_out8, h]
  rfl
theorem m_cell_ok (hj : j < 8) : f_X9_cell f v (nI j) = some (f j, 0) := by
  unfold f_X9_cell
  rw [m_out8, rg_nI hj]
  simp only [Option.bind_some, Bool.not_true, b2i_f]
  rw [show f_X9_throwing v (0 : Int32) (0 : Int32) = some (0, 0) from rfl]
  simp only [Option.bind_some, if_pos, pn_gd hj (show 8 < 2 ^ 31 by decide), pn_c hj]
theorem m_value (en w : Int32) : f_X9_value v en w = some (if en = 0 then (w, 0) else (0, 1)) := by
  unfold f_X9_value
  by_cases h : en = 0
  · rw [if_pos h, if_pos h]; rfl
  · rw [if_neg h, if_neg h]; rfl
theorem s_value (en w : Int32) : f_X8_value en w = some (if en = 0 then (0, w) else (3, 0)) := by
  unfold f_X8_value
  by_cases h : en = 0
  · rw [if_pos h, if_pos h]
  · rw [if_neg h, if_neg h]
theorem s_traced {c : Nat} (hc : c ≤ 16) (x : Int32) : (f_X8_traced f (nI c) x = some (3, 0) ∧ f_X9_traced f v (nI c) x = some (0, 1)) ∨ ∃ j, j < c ∧ x = nI j ∧ f_X8_traced f (nI c) x = some (0, f j) ∧ f_X9_traced f v (nI c) x = some (f j, 0) := by
  unfold f_X8_traced f_X9_traced
  rw [m_out]
  by_cases h : x < 0
  · refine Or.inl ⟨by rw [if_pos h], ?_⟩
    simp only [h, decide_true, Bool.true_or]
    rfl
  · by_cases h2 : x < nI c
    · obtain ⟨j, hj, rfl⟩ := nI_of h
      have hjc : j < c := (nI_ltI hj (by omega)).mp h2
      have hcl : (nI j).toNatClampNeg = j := nI_clamp hj
      refine Or.inr ⟨j, hjc, rfl, ?_, ?_⟩
      · rw [if_neg h, if_pos h2, pn_gd (show j < 16 by omega) (by decide), hcl]
      · simp only [h, h2, decide_true, decide_false, Bool.not_true, Bool.or_false, Option.bind_some]
        show (f_X9_throwing v (0 : Int32) (0 : Int32)).bind _ = _
        rw [show f_X9_throwing v (0 : Int32) (0 : Int32) = some (0, 0) from rfl]
        simp only [Option.bind_some, if_pos, pn_gd (show j < 16 by omega) (show 16 < 2 ^ 31 by decide), hcl]
    · refine Or.inl ⟨by rw [if_neg h, if_neg h2], ?_⟩
      simp only [h, h2, decide_false, Bool.not_false, Bool.or_true]
      rfl
end PSM
