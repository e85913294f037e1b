/-! PURE SIDE: instruction, both sides. -/
def kpD (k : Nat) (x : Int32) : Int32 := if (wrK k || goK k) = true then x else 0
def kpA (k : Nat) (x : Int32) : Int32 := if (raK k || k == 1) = true then x else 0
def kpB (k : Nat) (x : Int32) : Int32 := if rbK k = true then x else 0
theorem pn_24 : (24 : Int32) = nI 24 := by decide +kernel
theorem pn_2 : (2 : Int32) = nI 2 := by decide +kernel
theorem pn_is1 {k : Nat} (hk : k < 15) : (nI k = 1) ↔ k = 1 := by
  rw [pn_1]
  exact nI_eq (by omega) (by decide)
section PI1
variable {L c k : Nat} {fa fb fd fk : Nat → Int32}
theorem s_i96 (hc : c < L) (hL : L < 2 ^ 31) (x1 x5 x6 t0 : Int32) : f_X8_instruction_96 L fa fb fd fk (nI c) x1 x5 x6 t0 = some (0, nI c, upd fa c x6, upd fb c t0, upd fd c x5, upd fk c x1, nI (c + 1)) := by
  unfold f_X8_instruction_96
  rw [s_append hc hL]
  simp only [Option.bind_some, pn_p]
theorem s_i81 (hk : k < 15) (v x4 x5 t0 : Int32) : f_X8_instruction_81 L fa fb fd fk v (nI k) x4 x5 t0 = f_X8_instruction_96 L fa fb fd fk v (nI k) x5 t0 (kpB k x4) := by
  unfold f_X8_instruction_81 kpB
  rw [s_readsB k hk]
  cases rbK k <;> rfl
theorem s_i62 (hk : k < 15) (v x3 x4 t0 : Int32) : f_X8_instruction_62 L fa fb fd fk v (nI k) x3 x4 t0 = f_X8_instruction_81 L fa fb fd fk v (nI k) x4 t0 (kpA k x3) := by
  unfold f_X8_instruction_62 kpA
  rw [s_readsA k hk]
  cases raK k
  · by_cases h : k = 1
    · subst h
      rfl
    · have h1 : ¬ nI k = 1 := fun e => h ((pn_is1 hk).mp e)
      have h2 : (k == 1) = false := by simp [h]
      simp [b2i, h1, h2]
  · rfl
theorem s_instr_ok (hk : k ≤ 12) (x2 x3 x4 : Int32) (hf : fitI k x2 x3 x4 = true) (hc : c < 24) (hcL : c < L) (hL : L < 2 ^ 31) :
    f_X8_instruction L fa fb fd fk (nI c) (nI k) x2 x3 x4 = some (0, nI c, upd fa c (kpA k x3), upd fb c (kpB k x4), upd fd c (kpD k x2), upd fk c (nI k), nI (c + 1)) := by
  have h15 : k < 15 := by omega
  unfold f_X8_instruction kpD
  rw [s_fitsDraft hk, hf]
  simp only [Option.bind_some, b2i_t, if_neg (show ¬ (1 : Int32) = 0 by decide)]
  rw [if_pos (by rw [pn_24]; exact nI_lt hc (by decide)), s_writesD k h15]
  simp only [s_goesToD k h15, s_i62 h15, s_i81 h15, s_i96 hcL hL]
  cases wrK k
  · cases goK k <;> rfl
  · rfl
theorem s_instr_full (hk : k ≤ 12) (x2 x3 x4 : Int32) (hf : fitI k x2 x3 x4 = true) :
    f_X8_instruction L fa fb fd fk (nI 24) (nI k) x2 x3 x4 = some (2, 0, fa, fb, fd, fk, nI 24) := by
  unfold f_X8_instruction
  rw [s_fitsDraft hk, hf]
  simp only [Option.bind_some, b2i_t, if_neg (show ¬ (1 : Int32) = 0 by decide)]
  rw [if_neg (by decide +kernel)]
theorem s_instr_bad {x1 x2 x3 x4 v : Int32} (hf : f_X2_fitsDraft x1 x2 x3 x4 = some 0) :
    f_X8_instruction L fa fb fd fk v x1 x2 x3 x4 = some (1, 0, fa, fb, fd, fk, v) := by
  unfold f_X8_instruction
  rw [hf]
  rfl
end PI1
theorem m_throwing (v : Int32) (p q : Bool) : f_X9_throwing v (b2i p) (b2i q) = some (b2i (p || q), if p = true then 1 else if q = true then 2 else 0) := by
  cases p <;> cases q <;> rfl
section PI2
variable {c k : Nat} {fa fb fd fk fs : Nat → Int32}
theorem m_i160 (hs : fs 2 = nI c) (hc : c < 100) (v t2 t3 t4 t5 : Int32) : f_X9_instruction_160 fa fb fd fk fs v 2 t2 t3 t4 t5 = some (nI c, upd fa (200 + c) t4, upd fb (200 + c) t5, upd fd (200 + c) t3, upd fk (200 + c) t2, upd fs 2 (nI (c + 1)), v) := by
  unfold f_X9_instruction_160
  rw [pn_2, m_append (p := 2) (by decide) hs hc]
  have hcl : (nI 2).toNatClampNeg = 2 := nI_clamp (by decide)
  simp only [Option.bind_some, pn_gd (show 2 < 4 by decide) (show 4 < 2 ^ 31 by decide), hcl, upd_s, pn_p]
theorem m_i147 (hk : k < 15) (v x4 t1 t2 t3 t4 : Int32) : f_X9_instruction_147 fa fb fd fk fs v (nI k) x4 t1 t2 t3 t4 = f_X9_instruction_160 fa fb fd fk fs v t1 t2 t3 t4 (kpB k x4) := by
  unfold f_X9_instruction_147 kpB
  rw [m_readsB k hk]
  cases rbK k <;> rfl
theorem m_i130 (hk : k ≤ 12) (v x3 x4 t1 t2 t3 : Int32) : f_X9_instruction_130 fa fb fd fk fs v (nI k) x3 x4 t1 t2 t3 = f_X9_instruction_147 fa fb fd fk fs v (nI k) x4 t1 t2 t3 (kpA k x3) := by
  unfold f_X9_instruction_130 kpA
  have h14 : (k == 14) = false := by simp; omega
  rw [m_readsA k (by omega), h14, Bool.or_false]
  cases raK k
  · by_cases h : k = 1
    · subst h
      rfl
    · have h1 : ¬ nI k = 1 := fun e => h ((pn_is1 (by omega)).mp e)
      have h2 : (k == 1) = false := by simp [h]
      simp [b2i, h1, h2]
  · rfl
theorem m_i100 (hk : k ≤ 12) (hs : fs 2 = nI c) (hc : c < 100) (v x2 x3 x4 : Int32) : f_X9_instruction_100 fa fb fd fk fs v (nI k) x2 x3 x4 0 0 = some (nI c, upd fa (200 + c) (kpA k x3), upd fb (200 + c) (kpB k x4), upd fd (200 + c) (kpD k x2), upd fk (200 + c) (nI k), upd fs 2 (nI (c + 1)), 0) := by
  have h15 : k < 15 := by omega
  have h13 : (k == 13) = false := by simp; omega
  have ht := m_throwing v false false
  unfold f_X9_instruction_100 kpD
  rw [show (0 : Int32) = b2i false from rfl, ht]
  simp only [Option.bind_some, m_writes k h15, h13, Bool.or_false, m_goes k h15, m_i130 hk, m_i147 h15, m_i160 hs hc]
  cases wrK k
  · cases goK k <;> rfl
  · rfl
theorem m_i100_no (v x1 x2 x3 x4 : Int32) (p q : Bool) (h : (p || q) = true) : f_X9_instruction_100 fa fb fd fk fs v x1 x2 x3 x4 (b2i p) (b2i q) = some (0, fa, fb, fd, fk, fs, if p = true then 1 else 2) := by
  unfold f_X9_instruction_100
  rw [m_throwing]
  cases p <;> cases q <;> first | rfl | cases h
end PI2
section PI3
variable {c k : Nat} {fa fb fd fk fs : Nat → Int32}
theorem m_i79 (hs : fs 2 = nI c) (v x1 x2 x3 x4 : Int32) (hc : c ≤ 24) (p : Bool) : f_X9_instruction_79 fa fb fd fk fs v x1 x2 x3 x4 (b2i p) = f_X9_instruction_100 fa fb fd fk fs v x1 x2 x3 x4 (b2i p) (b2i (c == 24)) := by
  have hcl : (nI 2).toNatClampNeg = 2 := nI_clamp (by decide)
  unfold f_X9_instruction_79
  rw [pn_2, pn_gd (show 2 < 4 by decide) (show 4 < 2 ^ 31 by decide), hcl, hs]
  by_cases h : c = 24
  · subst h
    rfl
  · have h1 : ¬ nI c = 24 := fun e => h ((nI_eq (by omega) (by decide)).mp e)
    have h2 : (c == 24) = false := by simp [h]
    rw [if_neg h1, h2]
    rfl
theorem m_i58 (hk : k < 15) (v x2 x3 x4 : Int32) : f_X9_instruction_58 fa fb fd fk fs v (nI k) x2 x3 x4 = f_X9_instruction_79 fa fb fd fk fs v (nI k) x2 x3 x4 (b2i (goK k && (decide (x2 < 0) || !decide (x2 < 24)))) := by
  unfold f_X9_instruction_58
  rw [m_goes k hk]
  simp only [m_out]
  cases goK k
  · rfl
  · simp only [Option.bind_some, Bool.true_and]
    cases (decide (x2 < 0) || !decide (x2 < 24)) <;> rfl
theorem m_i41 (hk : k < 15) (v x2 x3 x4 : Int32) : f_X9_instruction_41 fa fb fd fk fs v (nI k) x2 x3 x4 = f_X9_instruction_79 fa fb fd fk fs v (nI k) x2 x3 x4 (b2i ((rbK k && !rgI x4) || (goK k && (decide (x2 < 0) || !decide (x2 < 24))))) := by
  unfold f_X9_instruction_41
  rw [m_readsB k hk]
  simp only [m_out, m_i58 hk]
  cases rbK k
  · rfl
  · have e : (decide (x4 < 0) || !decide (x4 < 8)) = !rgI x4 := by
      unfold rgI
      cases decide (x4 < 0) <;> cases decide (x4 < 8) <;> rfl
    rw [e]
    simp only [Option.bind_some, Bool.true_and]
    cases rgI x4 <;> rfl
theorem m_i25 (hk : k ≤ 12) (v x2 x3 x4 : Int32) : f_X9_instruction_25 fa fb fd fk fs v (nI k) x2 x3 x4 = f_X9_instruction_79 fa fb fd fk fs v (nI k) x2 x3 x4 (b2i ((raK k && !rgI x3) || ((rbK k && !rgI x4) || (goK k && (decide (x2 < 0) || !decide (x2 < 24)))))) := by
  have h14 : (k == 14) = false := by simp; omega
  unfold f_X9_instruction_25
  rw [m_readsA k (by omega), h14, Bool.or_false]
  simp only [m_out, m_i41 (show k < 15 by omega)]
  cases raK k
  · rfl
  · have e : (decide (x3 < 0) || !decide (x3 < 8)) = !rgI x3 := by
      unfold rgI
      cases decide (x3 < 0) <;> cases decide (x3 < 8) <;> rfl
    rw [e]
    simp only [Option.bind_some, Bool.true_and]
    cases rgI x3 <;> rfl
theorem m_fit (hk : k ≤ 12) (x2 x3 x4 : Int32) : ((wrK k && !rgI x2) || ((raK k && !rgI x3) || ((rbK k && !rgI x4) || (goK k && (decide (x2 < 0) || !decide (x2 < 24)))))) = !fitI k x2 x3 x4 := by
  unfold fitI
  cases wrK k <;> cases raK k <;> cases rbK k <;> cases goK k <;> cases rgI x2 <;> cases rgI x3 <;> cases rgI x4 <;> cases decide (x2 < 0) <;> cases decide (x2 < 24) <;> rfl
theorem m_instr (hk : k ≤ 12) (v x2 x3 x4 : Int32) : f_X9_instruction fa fb fd fk fs v (nI k) x2 x3 x4 = f_X9_instruction_79 fa fb fd fk fs v (nI k) x2 x3 x4 (b2i (!fitI k x2 x3 x4)) := by
  have h13 : (k == 13) = false := by simp; omega
  have hlt : nI k < 13 := nI_lt (b := 13) (by omega) (by decide)
  have hng : ¬ nI k < 0 := nI_pos (by omega)
  unfold f_X9_instruction
  rw [m_out, ← m_fit hk]
  simp only [hlt, hng, decide_true, decide_false, Bool.not_true, Bool.or_false, Option.bind_some, b2i_f, if_pos, m_writes k (show k < 15 by omega), h13, m_out, m_i25 hk]
  cases wrK k
  · rfl
  · have e : (decide (x2 < 0) || !decide (x2 < 8)) = !rgI x2 := by
      unfold rgI
      cases decide (x2 < 0) <;> cases decide (x2 < 8) <;> rfl
    rw [e]
    cases rgI x2 <;> rfl
theorem m_instr_no {x1 : Int32} (h : x1 < 0 ∨ ¬ x1 ≤ 12) (v x2 x3 x4 : Int32) : f_X9_instruction fa fb fd fk fs v x1 x2 x3 x4 = f_X9_instruction_79 fa fb fd fk fs v x1 x2 x3 x4 (b2i true) := by
  have e : (decide (x1 < 0) || !decide (x1 < 13)) = true := by
    rcases h with h | h
    · simp [h]
    · have h1 : ¬ x1 < 13 := fun q => h (by
        rw [Int32.lt_iff_toInt_lt] at q
        rw [Int32.le_iff_toInt_le]
        have a : (13 : Int32).toInt = 13 := by decide
        have b : (12 : Int32).toInt = 12 := by decide
        omega)
      simp [h1]
  unfold f_X9_instruction
  rw [m_out, e]
  rfl
/-- the reference's instruction: as the class's, in its own rows -/
theorem m_instr_ok (hk : k ≤ 12) (hs : fs 2 = nI c) (hc : c < 24) (v x2 x3 x4 : Int32) (hf : fitI k x2 x3 x4 = true) :
    f_X9_instruction fa fb fd fk fs v (nI k) x2 x3 x4 = some (nI c, upd fa (200 + c) (kpA k x3), upd fb (200 + c) (kpB k x4), upd fd (200 + c) (kpD k x2), upd fk (200 + c) (nI k), upd fs 2 (nI (c + 1)), 0) := by
  have h24 : (c == 24) = false := by simp; omega
  rw [m_instr hk, hf, m_i79 hs _ _ _ _ _ (by omega), h24]
  exact m_i100 hk hs (by omega) v x2 x3 x4
theorem m_instr_full (hk : k ≤ 12) (hs : fs 2 = nI 24) (v x2 x3 x4 : Int32) (hf : fitI k x2 x3 x4 = true) :
    f_X9_instruction fa fb fd fk fs v (nI k) x2 x3 x4 = some (0, fa, fb, fd, fk, fs, 2) := by
  rw [m_instr hk, hf, m_i79 hs _ _ _ _ _ (by omega)]
  exact m_i100_no v _ x2 x3 x4 false true rfl
theorem m_instr_bad (hs : fs 2 = nI c) (hc : c ≤ 24) {x1 : Int32} (v x2 x3 x4 : Int32) (hf : f_X2_fitsDraft x1 x2 x3 x4 = some 0) :
    f_X9_instruction fa fb fd fk fs v x1 x2 x3 x4 = some (0, fa, fb, fd, fk, fs, 1) := by
  by_cases h : x1 < 0 ∨ ¬ x1 ≤ 12
  · rw [m_instr_no h, m_i79 hs _ _ _ _ _ hc]
    exact m_i100_no v _ x2 x3 x4 true _ rfl
  · obtain ⟨k, hk, rfl⟩ := kind_of h
    rw [s_fitsDraft hk] at hf
    have hf2 : fitI k x2 x3 x4 = false := by
      cases q : fitI k x2 x3 x4
      · rfl
      · rw [q] at hf
        exact absurd (Option.some.inj hf) (by decide)
    rw [m_instr hk, hf2, m_i79 hs _ _ _ _ _ hc]
    exact m_i100_no v _ x2 x3 x4 true _ rfl
end PI3
