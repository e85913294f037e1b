section FOM
variable {kn nu fa fb fk : Nat → Int32} {q : Nat → Option Int32} {c i k : Nat} {d : Int32}
theorem pn_h (i : Nat) : (100 : Int32) + nI i = nI (100 + i) := nI_add 100 i
theorem m_numberIn {r : Nat} (hi : i < 26) (hr : r < 8) (h : RowM q kn nu i) : f_X9_numberIn kn (nI i) (nI r) = some (b2i (q r).isSome) := by
  unfold f_X9_numberIn
  rw [pn_8m, nI_add, pn_gd (by omega) (by omega), nI_clamp (by omega), (h r hr).1, gb_in (b2i_01 _)]
theorem ki_lt {k m : Nat} (hk : k < 2 ^ 31) (hm : m < 2 ^ 31) : (nI k < nI m) ↔ k < m := nI_ltI hk hm
theorem kl2 {k : Nat} (hk : k < 15) : (nI k < (2 : Int32)) ↔ k < 2 := nI_ltI (b := 2) (by omega) (by decide)
theorem k6l {k : Nat} (hk : k < 15) : ((6 : Int32) < nI k) ↔ 6 < k := nI_ltI (a := 6) (by decide) (by omega)
theorem m_gives (hi : i < 26) (hf : fk (100 + i) = nI k) (w : WI c k d (fa (100 + i)) (fb (100 + i))) (h : RowM q kn nu i) :
    f_X9_gives fa fb fk kn nu (nI i) = some (b2i (gv q k (fa (100 + i)) (fb (100 + i))).isSome) := by
  have hk : k < 15 := by have := w.1; omega
  unfold f_X9_gives gv
  have e100 : ∀ {α : Type} {x : Option α}, gd (nI (100 + i)) 400 x = x := pn_gd (by omega) (by omega)
  rw [pn_h, e100, nI_clamp (by omega), hf]
  by_cases k1 : k = 1
  · rw [if_pos ((ki1 hk).mpr k1), if_pos k1]; rfl
  rw [if_neg (fun e => k1 ((ki1 hk).mp e)), if_neg k1]
  by_cases k0 : k = 0
  · subst k0; rw [if_pos ((kl2 hk).mpr (by decide))]; rfl
  rw [if_neg (fun e => by have := (kl2 hk).mp e; omega)]
  by_cases k6 : 6 < k
  · rw [if_pos ((k6l hk).mpr k6), if_neg (by omega)]
    have e : arK k = false := by unfold arK; simp; omega
    rw [e]; rfl
  rw [if_neg (fun e => k6 ((k6l hk).mp e)), e100]
  have era : raK k = true := by unfold raK; simp; omega
  obtain ⟨ra, hra, ea⟩ := w.2.2.1 era
  rw [ea, m_numberIn hi hra h, nN_nI hra]
  simp only [Option.bind_some]
  by_cases k2 : k = 2
  · simp only [ki2 hk, k2, if_true]
    cases q ra <;> rfl
  have ek : arK k = true := by unfold arK; simp; omega
  obtain ⟨rb, hrb, eb⟩ := w.2.2.2.1 (ar_of k hk ek).2.1
  rw [if_neg k2, if_pos ek, eb, m_numberIn hi hrb h, nN_nI hrb]
  simp only [Option.bind_some, ki2 hk, ki6 hk, k2, if_false]
  cases x1 : q ra with
  | none => rfl
  | some x => cases x2 : q rb with
    | none => simp only [e100]; rfl
    | some y =>
      simp only [Option.bind_some, e100]
      rw [pn_8m, nI_add, pn_gd (by omega) (by omega), nI_clamp (by omega), (h rb hrb).2 y x2]
      by_cases kk : k = 6 <;> by_cases z : y = 0 <;> simp [kk, z, b2i]
theorem m_given (hi : i < 26) (hf : fk (100 + i) = nI k) (w : WI c k d (fa (100 + i)) (fb (100 + i))) (h : RowM q kn nu i) :
    f_X9_given fa fb fk kn nu (nI i) = some ((gv q k (fa (100 + i)) (fb (100 + i))).getD 0) := by
  have hk : k < 15 := by have := w.1; omega
  unfold f_X9_given
  have e100 : ∀ {α : Type} {x : Option α}, gd (nI (100 + i)) 400 x = x := pn_gd (by omega) (by omega)
  rw [pn_h, e100, nI_clamp (by omega), hf, m_gives hi hf w h]
  simp only [Option.bind_some]
  cases hv : gv q k (fa (100 + i)) (fb (100 + i)) with
  | none => rfl
  | some v =>
    unfold gv at hv
    simp only [Option.isSome_some, b2i_t, e100, ki1 hk, ki2 hk]
    rw [if_neg (show ¬ (1 : Int32) = 0 by decide)]
    by_cases k1 : k = 1
    · rw [if_pos k1] at hv; rw [if_pos k1]; exact hv
    rw [if_neg k1] at hv; rw [if_neg k1]
    by_cases k2 : k = 2
    · subst k2
      obtain ⟨ra, hra, ea⟩ := w.2.2.1 (by decide)
      rw [if_pos rfl, ea, nN_nI hra] at hv
      rw [ea, pn_8m, nI_add, pn_gd (by omega) (by omega), nI_clamp (by omega), (h ra hra).2 v hv, if_pos rfl]
      rfl
    rw [if_neg k2] at hv
    cases e : arK k with
    | false => rw [e] at hv; cases hv
    | true =>
      rw [if_pos e] at hv
      obtain ⟨e1, e2, e5, e3, e4⟩ := ar_of k hk e
      obtain ⟨ra, hra, ea⟩ := w.2.2.1 e1
      obtain ⟨rb, hrb, eb⟩ := w.2.2.2.1 e2
      rw [ea, eb, nN_nI hra, nN_nI hrb] at hv
      cases x1 : q ra with
      | none => rw [x1] at hv; cases hv
      | some x => cases x2 : q rb with
        | none => rw [x1, x2] at hv; cases hv
        | some y =>
          rw [x1, x2] at hv
          simp only [Option.bind_some] at hv
          by_cases z : k = 6 ∧ y = 0
          · rw [if_pos z] at hv; cases hv
          · rw [if_neg z] at hv
            rw [ea, eb, if_neg k2]
            simp only [pn_8m, nI_add]
            rw [pn_gd (by omega) (by omega), pn_gd (by omega) (by omega), nI_clamp (by omega), nI_clamp (by omega), (h ra hra).2 x x1, (h rb hrb).2 y x2, m_reckon e3 e4 x y (fun z6 y0 => z ⟨z6, y0⟩)]
            exact hv
end FOM
