/-! PURE SIDE: instruction. -/
def rgI (x : Int32) : Bool := !decide (x < 0) && decide (x < 8)
theorem i_nlt {x y : Int32} (h : y ≤ x) : ¬ x < y := Int32.not_lt.mpr h
theorem i_lt {x y : Int32} (h : ¬ y ≤ x) : x < y := Int32.not_le.mp h
theorem s_isRegister (x : Int32) : f_X2_isRegister x = some (b2i (rgI x)) := by
  unfold f_X2_isRegister rgI
  by_cases h : x < 0
  · simp [h, b2i]
  · by_cases h2 : (8 : Int32) ≤ x
    · simp [h, h2, i_nlt h2, b2i]
    · simp [h, h2, i_lt h2, b2i]
theorem m_out (x y : Int32) : f_X9_out x y = some (b2i (decide (x < 0) || !decide (x < y))) := by
  unfold f_X9_out
  by_cases h : x < 0
  · simp [h, b2i]
  · by_cases h2 : x < y <;> simp [h, h2, b2i]
def fitI (k : Nat) (x2 x3 x4 : Int32) : Bool := (!goK k || (!decide (x2 < 0) && decide (x2 < 24))) && ((!wrK k || rgI x2) && ((!raK k || rgI x3) && (!rbK k || rgI x4)))
theorem s_fits59 {k : Nat} (hk : k < 15) (x4 : Int32) : f_X2_fitsDraft_59 (nI k) x4 = some (b2i (!rbK k || rgI x4)) := by
  unfold f_X2_fitsDraft_59
  rw [s_readsB k hk]
  cases rbK k
  · rfl
  · simp only [Option.bind_some, s_isRegister]
    cases rgI x4 <;> rfl
theorem s_fits45 {k : Nat} (hk : k < 15) (x3 x4 : Int32) : f_X2_fitsDraft_45 (nI k) x3 x4 = some (b2i ((!raK k || rgI x3) && (!rbK k || rgI x4))) := by
  unfold f_X2_fitsDraft_45
  rw [s_readsA k hk]
  simp only [s_fits59 hk, s_isRegister]
  cases raK k
  · rfl
  · simp only [Option.bind_some]
    cases rgI x3 <;> cases (!rbK k || rgI x4) <;> rfl
theorem s_fits31 {k : Nat} (hk : k < 15) (x2 x3 x4 : Int32) : f_X2_fitsDraft_31 (nI k) x2 x3 x4 = some (b2i ((!wrK k || rgI x2) && ((!raK k || rgI x3) && (!rbK k || rgI x4)))) := by
  unfold f_X2_fitsDraft_31
  rw [s_writesD k hk]
  simp only [s_fits45 hk, s_isRegister]
  cases wrK k
  · rfl
  · simp only [Option.bind_some]
    cases rgI x2 <;> cases ((!raK k || rgI x3) && (!rbK k || rgI x4)) <;> rfl
theorem s_fitsDraft {k : Nat} (hk : k ≤ 12) (x2 x3 x4 : Int32) : f_X2_fitsDraft (nI k) x2 x3 x4 = some (b2i (fitI k x2 x3 x4)) := by
  have h12 : nI k ≤ 12 := nI_le (b := 12) hk (by decide)
  unfold f_X2_fitsDraft fitI
  rw [if_neg (nI_pos (by omega)), if_pos h12, s_goesToD k (by omega)]
  simp only [s_fits31 (show k < 15 by omega)]
  cases goK k
  · cases ((!wrK k || rgI x2) && ((!raK k || rgI x3) && (!rbK k || rgI x4))) <;> rfl
  · simp only [Option.bind_some]
    by_cases h1 : x2 < 0
    · simp [h1, b2i]
    · by_cases h2 : x2 < 24
      · simp [h1, h2, b2i]
      · simp [h1, h2, b2i]
theorem s_fitsNo {x : Int32} (h : x < 0 ∨ ¬ x ≤ 12) (x2 x3 x4 : Int32) : f_X2_fitsDraft x x2 x3 x4 = some 0 := by
  unfold f_X2_fitsDraft
  rcases h with h | h
  · rw [if_pos h]
  · by_cases h1 : x < 0
    · rw [if_pos h1]
    · rw [if_neg h1, if_neg h]
theorem kind_of {x : Int32} (h : ¬ (x < 0 ∨ ¬ x ≤ 12)) : ∃ k, k ≤ 12 ∧ x = nI k := by
  have h1 : ¬ x < 0 := fun q => h (Or.inl q)
  have h2 : x ≤ 12 := Decidable.byContradiction fun q => h (Or.inr q)
  obtain ⟨j, hj, e⟩ := nI_of2 (M := 12) (n := 12) (by decide) h1 h2
  exact ⟨j, hj, e⟩
