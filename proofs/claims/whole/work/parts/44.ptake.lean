/-! PURE SIDE: take, the loops that look at the draft. -/
theorem pn_200 : (200 : Int32) = nI 200 := by decide +kernel
/-- every JUMP and ZERO among the m instructions from j on goes below c -/
def okF (kp : Nat → Nat) (fd : Nat → Int32) (c : Nat) : Nat → Nat → Bool
  | 0, _ => true
  | m + 1, j => (!goK (kp j) || decide (fd j < nI c)) && okF kp fd c m (j + 1)
theorem s_whole43 {n L c : Nat} {fd fk : Nat → Int32} {kp : Nat → Nat} (hcL : c ≤ L) (hL : L < 2 ^ 31) (hk : ∀ i, i < c → fk i = nI (kp i) ∧ kp i < 15) : ∀ (k j : Nat), j ≤ c → c - j < k →
    f_X6_isWhole_43 n k L fd fk (nI c) (nI j) = some (b2i (okF kp fd c (c - j) j)) := by
  intro k
  induction k with
  | zero => intro j h1 h2; omega
  | succ k ih =>
    intro j hj hk2
    rw [f_X6_isWhole_43]
    by_cases e : j = c
    · subst e
      rw [if_pos (nI_le (Nat.le_refl _) (by omega)), Nat.sub_self]
      rfl
    · have hlt : j < c := by omega
      have hcl : (nI j).toNatClampNeg = j := nI_clamp (by omega)
      obtain ⟨m, hm⟩ : ∃ m, c - j = m + 1 := ⟨c - j - 1, by omega⟩
      have hm2 : c - (j + 1) = m := by omega
      rw [if_neg (nI_ge hlt (by omega)), hm, okF]
      simp only [pn_gd (show j < L by omega) hL, hcl, (hk j hlt).1, s_goesToD _ (hk j hlt).2, Option.bind_some, pn_s]
      rw [ih (j + 1) (by omega) (by omega), hm2]
      cases goK (kp j)
      · rfl
      · by_cases h : fd j < nI c
        · simp [h, b2i]
        · simp [h, b2i]
/-- the reference's take behind its loop -/
def mtk (n : Nat) (fa fb fd fk fs : Nat → Int32) (v tk al : Int32) (c : Nat) (g : Bool) : Option (Int32 × (Nat → Int32) × (Nat → Int32) × (Nat → Int32) × (Nat → Int32) × (Nat → Int32) × Int32 × Int32 × Int32) :=
  if b2i g = 0 then f_X9_take_94 n fa fb fd fk fs v tk al (nI c) (b2i g) else (f_X9_copy n fa fb fd fk fs (2 : Int32) (0 : Int32)).bind (fun u12 => f_X9_take_94 n u12.1 u12.2.1 u12.2.2.1 u12.2.2.2.1 u12.2.2.2.2 v tk al (nI c) (b2i g))
theorem m_take37 {n c : Nat} {fa fb fd fk fs gd9 : Nat → Int32} {v tk al : Int32} {kp : Nat → Nat} (hc : c ≤ 24) (hk : ∀ i, i < c → fk (200 + i) = nI (kp i) ∧ kp i < 15) (hd : ∀ i, i < c → fd (200 + i) = gd9 i) : ∀ (k j : Nat) (g : Bool), j ≤ c → c - j < k →
    f_X9_take_37 n k fa fb fd fk fs v tk al (nI c) (b2i g) (nI (200 + j)) = mtk n fa fb fd fk fs v tk al c (g && okF kp gd9 c (c - j) j) := by
  intro k
  induction k with
  | zero => intro j g h1 h2; omega
  | succ k ih =>
    intro j g hj hk2
    rw [f_X9_take_37, pn_200, nI_add]
    by_cases e : j = c
    · subst e
      rw [if_pos (nI_le (Nat.le_refl _) (by omega)), Nat.sub_self]
      simp only [okF, Bool.and_true]
      rfl
    · have hlt : j < c := by omega
      have hcl : (nI (200 + j)).toNatClampNeg = 200 + j := nI_clamp (by omega)
      obtain ⟨m, hm⟩ : ∃ m, c - j = m + 1 := ⟨c - j - 1, by omega⟩
      have hm2 : c - (j + 1) = m := by omega
      rw [if_neg (nI_ge (by omega) (by omega)), hm, okF]
      simp only [pn_gd (show 200 + j < 400 by omega) (show 400 < 2 ^ 31 by decide), hcl, (hk j hlt).1, m_goes _ (hk j hlt).2, Option.bind_some, pn_s, hd j hlt]
      have i0 := ih (j + 1) false (by omega) (by omega)
      have i1 := ih (j + 1) true (by omega) (by omega)
      rw [hm2] at i0 i1
      have i0' : f_X9_take_37 n k fa fb fd fk fs v tk al (nI c) 0 (nI (200 + j + 1)) = mtk n fa fb fd fk fs v tk al c false := i0
      have i1' : f_X9_take_37 n k fa fb fd fk fs v tk al (nI c) 1 (nI (200 + j + 1)) = mtk n fa fb fd fk fs v tk al c (okF kp gd9 c m (j + 1)) := i1
      rw [i0', i1']
      cases g
      · rfl
      · rw [if_neg (by decide : ¬ b2i true = 0)]
        cases goK (kp j)
        · rfl
        · by_cases h : gd9 j < nI c
          · have h2 : ¬ nI c ≤ gd9 j := fun q => i_nlt q h
            simp [h, h2, b2i]
          · have h2 : nI c ≤ gd9 j := Int32.not_lt.mp h
            simp [h, h2, b2i]
