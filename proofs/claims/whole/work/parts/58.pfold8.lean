section FM2
variable {n c i k : Nat} {S S0 : FS} {fa fb fd fk : Nat → Int32} {q : RQ}
theorem m_goes1 {k : Nat} (hk : k < 15) : f_X9_goes (nI k) = some (b2i (goK k)) := m_goes k hk
theorem go_wr : ∀ k, k < 15 → goK k = true → wrK k = false := by decide
theorem m_f148 {kn nu re : Nat → Int32} {ch : Int32} (hn : 8 < n) (hc : c ≤ 24) (hi : i < c) (hf : fk (100 + i) = nI k) (w : WI c k (fd (100 + i)) (fa (100 + i)) (fb (100 + i))) (hg : goK k = true) (hS : TS S) (hSi : S i = some q) (hR : RelM c S kn nu re) (hU : CU (c + 1) S0 ch S) :
    ∃ kn' nu' re' ch', f_X9_follow_148 n fa fb fd fk kn nu re ch (nI i) = some (kn', nu', re', ch') ∧ RelM c (cm S (nN (fd (100 + i))) (pst q k (fd (100 + i)) (fa (100 + i)) (fb (100 + i)))) kn' nu' re' ∧ CU (c + 1) S0 ch' (cm S (nN (fd (100 + i))) (pst q k (fd (100 + i)) (fa (100 + i)) (fb (100 + i)))) := by
  obtain ⟨x, hx, ex⟩ := w.2.2.2.2.1 hg
  have hk : k < 15 := by have := w.1; omega
  obtain ⟨kn', nu', re', ch', h1, h2, h3⟩ := m_come (n := n) (t := x) hn hc hi (by omega) hf w (fun _ => go_wr k hk hg) hS hSi hR hU
  unfold f_X9_follow_148
  have e1 : nN (fd (100 + i)) = x := by rw [ex, nN, nI_clamp (by omega)]
  rw [pn_h, pn_gd (by omega) (by omega), nI_clamp (show 100 + i < 2 ^ 31 by omega), e1]
  rw [show f_X9_come n fa fb fd fk kn nu re ch (fd (100 + i)) (nI i) = f_X9_come n fa fb fd fk kn nu re ch (nI x) (nI i) by rw [ex], h1]
  exact ⟨_, _, _, _, rfl, h2, h3⟩
theorem m_f127 {kn nu re : Nat → Int32} {ch : Int32} {ra : Nat} {x3 : Int32} (s : Bool) (hn : 8 < n) (hc : c ≤ 24) (hi : i < c) (hf : fk (100 + i) = nI k) (w : WI c k (fd (100 + i)) (fa (100 + i)) (fb (100 + i))) (hS : TS S) (hSi : S i = some q) (hR : RelM c S kn nu re) (hU : CU (c + 1) S0 ch S) (hs : s = true → ra < 8 ∧ x3 = nI (8 * i + ra) ∧ (q ra).isSome = true) :
    ∃ kn' nu' re' ch', f_X9_follow_127 n fa fb fd fk kn nu re ch (nI i) (nI k) x3 (b2i s) = some (kn', nu', re', ch') ∧ RelM c (if goK k = true ∧ (s = true → q ra = some 0) then cm S (nN (fd (100 + i))) (pst q k (fd (100 + i)) (fa (100 + i)) (fb (100 + i))) else S) kn' nu' re' ∧ CU (c + 1) S0 ch' (if goK k = true ∧ (s = true → q ra = some 0) then cm S (nN (fd (100 + i))) (pst q k (fd (100 + i)) (fa (100 + i)) (fb (100 + i))) else S) := by
  have hk : k < 15 := by have := w.1; omega
  have hrow : RowM q kn nu i := by
    have := hR i (by omega)
    rw [hSi] at this
    exact this.2
  unfold f_X9_follow_127
  rw [m_goes k hk]
  simp only [Option.bind_some]
  cases e : goK k with
  | false =>
    rw [if_pos (show b2i false = 0 by decide), if_neg (fun z => by cases z.1)]
    exact ⟨_, _, _, _, rfl, hR, hU⟩
  | true =>
    rw [if_neg (show ¬ b2i true = 0 by decide)]
    have main := m_f148 hn hc hi hf w e hS hSi hR hU
    cases s with
    | false =>
      rw [if_pos (show b2i false = 0 by decide), if_pos ⟨rfl, fun z => by cases z⟩]
      exact main
    | true =>
      obtain ⟨h1, h2, h3⟩ := hs rfl
      rw [if_neg (show ¬ b2i true = 0 by decide), h2, pn_gd (by omega) (by omega), nI_clamp (by omega)]
      cases e2 : q ra with
      | none => rw [e2] at h3; cases h3
      | some v =>
        rw [(hrow ra h1).2 v e2]
        by_cases z : v = 0
        · rw [if_pos z, if_pos ⟨rfl, fun _ => by rw [z]⟩]
          exact main
        · rw [if_neg z, if_neg (fun t => z (Option.some.inj (t.2 rfl)))]
          exact ⟨_, _, _, _, rfl, hR, hU⟩
theorem m_f96 {kn nu re : Nat → Int32} {ch : Int32} {ra : Nat} {x3 : Int32} (s : Bool) (hn : 8 < n) (hc : c ≤ 24) (hi : i < c) (hf : fk (100 + i) = nI k) (w : WI c k (fd (100 + i)) (fa (100 + i)) (fb (100 + i))) (hS : TS S) (hSi : S i = some q) (hR : RelM c S kn nu re) (hU : CU (c + 1) S0 ch S) (hs : s = true → ra < 8 ∧ x3 = nI (8 * i + ra) ∧ (q ra).isSome = true) :
    ∃ kn' nu' re' ch' S', S' = (if goK k = true ∧ (s = true → q ra = some 0) then cm (if faK k = true ∧ ¬ (s = true ∧ q ra = some 0) then cm S (i + 1) (pst q k (fd (100 + i)) (fa (100 + i)) (fb (100 + i))) else S) (nN (fd (100 + i))) (pst q k (fd (100 + i)) (fa (100 + i)) (fb (100 + i))) else (if faK k = true ∧ ¬ (s = true ∧ q ra = some 0) then cm S (i + 1) (pst q k (fd (100 + i)) (fa (100 + i)) (fb (100 + i))) else S)) ∧
    f_X9_follow_96 n fa fb fd fk kn nu re ch (nI i) (nI k) x3 (b2i s) = some (kn', nu', re', ch') ∧ RelM c S' kn' nu' re' ∧ CU (c + 1) S0 ch' S' := by
  have hk : k < 15 := by have := w.1; omega
  have hrow : RowM q kn nu i := by
    have := hR i (by omega)
    rw [hSi] at this
    exact this.2
  have hT := pst_T w (hS i q hSi)
  -- with the fall
  have fall : ∃ kn' nu' re' ch', f_X9_follow_119 n fa fb fd fk kn nu re ch (nI i) (nI k) x3 (b2i s) = some (kn', nu', re', ch') ∧ RelM c (if goK k = true ∧ (s = true → q ra = some 0) then cm (cm S (i + 1) (pst q k (fd (100 + i)) (fa (100 + i)) (fb (100 + i)))) (nN (fd (100 + i))) (pst q k (fd (100 + i)) (fa (100 + i)) (fb (100 + i))) else cm S (i + 1) (pst q k (fd (100 + i)) (fa (100 + i)) (fb (100 + i)))) kn' nu' re' ∧ CU (c + 1) S0 ch' (if goK k = true ∧ (s = true → q ra = some 0) then cm (cm S (i + 1) (pst q k (fd (100 + i)) (fa (100 + i)) (fb (100 + i)))) (nN (fd (100 + i))) (pst q k (fd (100 + i)) (fa (100 + i)) (fb (100 + i))) else cm S (i + 1) (pst q k (fd (100 + i)) (fa (100 + i)) (fb (100 + i)))) := by
    obtain ⟨kn', nu', re', ch', h1, h2, h3⟩ := m_come (n := n) (t := i + 1) hn hc hi (by omega) hf w (fun z => by omega) hS hSi hR hU
    unfold f_X9_follow_119
    rw [pn_s, h1]
    simp only [Option.bind_some]
    exact m_f127 s hn hc hi hf w (cm_T hS hT) (by unfold cm; rw [if_neg (by omega)]; exact hSi) h2 h3 hs
  have stay := m_f127 s hn hc hi hf w hS hSi hR hU hs
  unfold f_X9_follow_96
  rw [m_falls k hk]
  simp only [Option.bind_some]
  cases e : faK k with
  | false =>
    obtain ⟨kn', nu', re', ch', h1, h2, h3⟩ := stay
    rw [if_pos (show b2i false = 0 by decide), h1]
    refine ⟨_, _, _, _, _, rfl, rfl, ?_, ?_⟩ <;> simp <;> assumption
  | true =>
    rw [if_neg (show ¬ b2i true = 0 by decide)]
    cases s with
    | false =>
      obtain ⟨kn', nu', re', ch', h1, h2, h3⟩ := fall
      rw [if_pos (show b2i false = 0 by decide), h1]
      refine ⟨_, _, _, _, _, rfl, rfl, ?_, ?_⟩
      · rw [if_pos (show true = true ∧ ¬ (false = true ∧ q ra = some 0) by simp)]; exact h2
      · rw [if_pos (show true = true ∧ ¬ (false = true ∧ q ra = some 0) by simp)]; exact h3
    | true =>
      obtain ⟨g1, g2, g3⟩ := hs rfl
      rw [if_neg (show ¬ b2i true = 0 by decide), g2, pn_gd (by omega) (by omega), nI_clamp (by omega)]
      cases e2 : q ra with
      | none => rw [e2] at g3; cases g3
      | some v =>
        rw [(hrow ra g1).2 v e2]
        by_cases z : v = 0
        · obtain ⟨kn', nu', re', ch', h1, h2, h3⟩ := stay
          rw [g2] at h1
          rw [if_pos z, h1]
          rw [e2] at h2 h3
          refine ⟨_, _, _, _, _, rfl, rfl, ?_, ?_⟩
          · rw [if_neg (show ¬ (true = true ∧ ¬ (true = true ∧ some v = some (0 : Int32))) by simp [z])]; exact h2
          · rw [if_neg (show ¬ (true = true ∧ ¬ (true = true ∧ some v = some (0 : Int32))) by simp [z])]; exact h3
        · obtain ⟨kn', nu', re', ch', h1, h2, h3⟩ := fall
          rw [g2] at h1
          rw [if_neg z, h1]
          rw [e2] at h2 h3
          refine ⟨_, _, _, _, _, rfl, rfl, ?_, ?_⟩
          · rw [if_pos (show true = true ∧ ¬ (true = true ∧ some v = some (0 : Int32)) by simp [z])]; exact h2
          · rw [if_pos (show true = true ∧ ¬ (true = true ∧ some v = some (0 : Int32)) by simp [z])]; exact h3
theorem mod8 : ∀ r, r < 8 → nI r - nI r / (8 : Int32) * (8 : Int32) = nI r := by decide +kernel
theorem m_follow {kn nu re : Nat → Int32} {ch : Int32} (hn : 8 < n) (hc : c ≤ 24) (hi : i < c) (hf : fk (100 + i) = nI k) (w : WI c k (fd (100 + i)) (fa (100 + i)) (fb (100 + i))) (hS : TS S) (hSi : S i = some q) (hR : RelM c S kn nu re) (hU : CU (c + 1) S0 ch S) :
    ∃ kn' nu' re' ch', f_X9_follow n fa fb fd fk kn nu re ch (nI i) = some (kn', nu', re', ch') ∧ RelM c (flw S i k (fd (100 + i)) (fa (100 + i)) (fb (100 + i))) kn' nu' re' ∧ CU (c + 1) S0 ch' (flw S i k (fd (100 + i)) (fa (100 + i)) (fb (100 + i))) := by
  have hk : k < 15 := by have := w.1; omega
  have e100 : ∀ {α : Type} {x : Option α}, gd (nI (100 + i)) 400 x = x := pn_gd (by omega) (by omega)
  have hrow : RowM q kn nu i := by
    have := hR i (by omega)
    rw [hSi] at this
    exact this.2
  rw [flw_eq hSi]
  -- a kind that is neither DIV-by-0 nor ZERO
  have plain : ∀ x3, ¬ k = 10 → ∃ kn' nu' re' ch', f_X9_follow_76 n fa fb fd fk kn nu re ch (nI i) (nI k) x3 = some (kn', nu', re', ch') ∧ RelM c (flw2 S i k (fd (100 + i)) (fa (100 + i)) q (pst q k (fd (100 + i)) (fa (100 + i)) (fb (100 + i)))) kn' nu' re' ∧ CU (c + 1) S0 ch' (flw2 S i k (fd (100 + i)) (fa (100 + i)) q (pst q k (fd (100 + i)) (fa (100 + i)) (fb (100 + i)))) := fun x3 k10 => by
    unfold f_X9_follow_76
    rw [if_neg (fun e => k10 ((ki10 hk).mp e))]
    obtain ⟨kn', nu', re', ch', S', hS', h1, h2, h3⟩ := m_f96 (ra := 0) (x3 := x3) false hn hc hi hf w hS hSi hR hU (fun z => by cases z)
    rw [b2i_f] at h1
    have : flw2 S i k (fd (100 + i)) (fa (100 + i)) q (pst q k (fd (100 + i)) (fa (100 + i)) (fb (100 + i))) = S' := by
      rw [hS']
      unfold flw2
      simp [k10]
    rw [this, h1]
    exact ⟨_, _, _, _, rfl, h2, h3⟩
  unfold f_X9_follow
  rw [pn_h]
  simp only [e100]
  rw [nI_clamp (by omega), hf]
  unfold f_X9_follow_50
  by_cases k6 : k = 6
  · obtain ⟨rb, hrb, eb⟩ := w.2.2.2.1 (by rw [k6]; decide)
    have hx := plain (nI (8 * i + rb)) (by omega)
    rw [if_pos ((ki6 hk).mpr k6), if_pos ((ki6 hk).mpr k6), pn_8m, eb, nN_nI hrb, nI_add]
    rw [eb] at hx
    have g208 : ∀ {α : Type} {x : Option α}, gd (nI (8 * i + rb)) 208 x = x := pn_gd (by omega) (by omega)
    simp only [g208]
    rw [nI_clamp (by omega), (hrow rb hrb).1]
    cases e2 : q rb with
    | none =>
      rw [Option.isSome_none, if_pos (show b2i false = 0 by decide), if_neg (fun z => by cases z.2)]
      exact hx
    | some v =>
      rw [Option.isSome_some, if_neg (show ¬ b2i true = 0 by decide), (hrow rb hrb).2 v e2]
      by_cases z : v = 0
      · rw [if_pos z, if_pos ⟨k6, by rw [z]⟩]
        exact ⟨_, _, _, _, rfl, hR, hU⟩
      · rw [if_neg z, if_neg (fun t => z (Option.some.inj t.2))]
        exact hx
  · simp only [ki6 hk, k6, if_false, false_and]
    by_cases k10 : k = 10
    · obtain ⟨ra, hra, ea⟩ := w.2.2.1 (by rw [k10]; decide)
      unfold f_X9_follow_76
      rw [if_pos ((ki10 hk).mpr k10), show fa (100 + i) - fa (100 + i) / 8 * 8 = nI ra by rw [ea]; exact mod8 ra hra, pn_8m, nI_add, pn_gd (by omega) (by omega), nI_clamp (by omega), (hrow ra hra).1]
      obtain ⟨kn', nu', re', ch', S', hS', h1, h2, h3⟩ := m_f96 (ra := ra) (x3 := nI (8 * i + ra)) (q ra).isSome hn hc hi hf w hS hSi hR hU (fun z => ⟨hra, rfl, z⟩)
      have : flw2 S i k (fd (100 + i)) (fa (100 + i)) q (pst q k (fd (100 + i)) (fa (100 + i)) (fb (100 + i))) = S' := by
        rw [hS']
        unfold flw2
        have en : nN (fa (100 + i)) = ra := by rw [ea, nN_nI hra]
        rw [en]
        cases e2 : q ra <;> simp [k10]
      rw [this]
      cases e2 : (q ra).isSome with
      | false =>
        rw [e2] at h1
        rw [if_pos (show b2i false = 0 by decide), ← b2i_f, h1]
        exact ⟨_, _, _, _, rfl, h2, h3⟩
      | true =>
        rw [e2] at h1
        rw [if_neg (show ¬ b2i true = 0 by decide), ← b2i_t, h1]
        exact ⟨_, _, _, _, rfl, h2, h3⟩
    · exact plain _ k10
end FM2
