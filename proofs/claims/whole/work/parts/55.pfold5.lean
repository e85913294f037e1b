section FC2
variable {n L c i k : Nat} {S S0 : FS} {fl kn nu re fa fb fd fk : Nat → Int32} {fkn ch : Int32} {q q' : RQ}
/-- behind the flows' preparation -/
def flw2 (S : FS) (i k : Nat) (d a : Int32) (q q' : RQ) : FS :=
  let S1 := if faK k = true ∧ ¬ (k = 10 ∧ q (nN a) = some 0) then cm S (i + 1) q' else S
  if goK k = true ∧ (k = 10 → (q (nN a)).isSome = true → q (nN a) = some 0) then cm S1 (nN d) q' else S1
theorem flw_eq {d a b : Int32} (h : S i = some q) : flw S i k d a b = if k = 6 ∧ q (nN b) = some 0 then S else flw2 S i k d a q (pst q k d a b) := by
  unfold flw
  rw [h]
  rfl
theorem s_f69 (hn : 8 < n) (hc : c ≤ 24) (hic : i < c) (hi : i < L) (hLL : L < 2 ^ 31) (hf : fk i = nI k) (w : WI c k (fd i) (fa i) (fb i)) (hS : TS S) (hR : RelC c S kn nu re) (hSi : S i = some q) (hT : Tq q') (hb : IsBs fkn (fun r => (q' r).isSome)) (hfl : ∀ r, r < 8 → ∀ v, q' r = some v → fl r = v) (hU : CU c S0 ch S) :
    ∃ kn' nu' re' ch', f_X1_follow_69 n L fl kn nu re fa fb fd fk fkn ch (nI c) (nI i) (nI k) = some (fl, kn', nu', re', fkn, ch') ∧ RelC c (flw2 S i k (fd i) (fa i) q q') kn' nu' re' ∧ CU c S0 ch' (flw2 S i k (fd i) (fa i) q q') := by
  have hk : k < 15 := by have := w.1; omega
  have g : ∀ {α : Type} {x : Option α}, gd (nI i) L x = x := pn_gd hi hLL
  have hrow : ∀ {S : FS} {kn nu re : Nat → Int32}, RelC c S kn nu re → S i = some q → RowC q (kn i) nu i := fun hR e => by
    have := hR i hic
    rw [e] at this
    exact this.2
  -- the two flows, one behind the other
  have fall : ∀ {x4 : Int32}, ∃ kn' nu' re' ch', f_X1_follow_115 n L fl kn nu re fa fb fd fk fkn ch (nI c) (nI i) x4 = f_X1_follow_124 n L fl kn' nu' re' fa fb fd fk fkn ch' (nI c) (nI i) x4 ∧ RelC c (if faK k = true then cm S (i + 1) q' else S) kn' nu' re' ∧ CU c S0 ch' (if faK k = true then cm S (i + 1) q' else S) := by
    intro x4
    unfold f_X1_follow_115
    rw [s_follower hi hLL hf hk (by omega)]
    simp only [Option.bind_some]
    cases e : faK k with
    | false =>
      rw [if_neg (fun z => by cases z.1), s_flowNo]
      exact ⟨_, _, _, _, rfl, hR, hU⟩
    | true =>
      obtain ⟨kn', nu', re', ch', h1, h2, h3⟩ := s_flowAny (t := i + 1) hn hc (by omega) hS hR hb hfl hU
      simp only [true_and, if_true]
      rw [h1]
      exact ⟨_, _, _, _, rfl, h2, h3⟩
  have hT1 : TS (if faK k = true then cm S (i + 1) q' else S) := by
    by_cases e : faK k = true
    · rw [if_pos e]; exact cm_T hS hT
    · rw [if_neg e]; exact hS
  have hS1 : (if faK k = true then cm S (i + 1) q' else S) i = some q := by
    by_cases e : faK k = true
    · rw [if_pos e]; unfold cm; rw [if_neg (by omega)]; exact hSi
    · rw [if_neg e]; exact hSi
  unfold f_X1_follow_69
  by_cases k10 : k = 10
  · obtain ⟨ra, hra, ea⟩ := w.2.2.1 (by rw [k10]; decide)
    have hfa : faK k = true := by rw [k10]; decide
    have hgo : goK k = true := by rw [k10]; decide
    rw [if_pos ((ki10 hk).mpr k10), g, nI_clamp (by omega), ea, s_knows (by omega) hra (hrow hR hSi).1]
    simp only [Option.bind_some]
    have z0 : f_X1_isZero kn nu (nI i) (nI ra) = some (b2i (decide (q ra = some 0))) := s_isZero (by omega) hra (hrow hR hSi)
    unfold flw2
    simp only [ea, nN_nI hra, k10, true_and, hfa, hgo]
    rw [k10] at hfa hgo
    simp only [hfa, hgo, true_and, true_implies]
    rw [k10] at fall hT1 hS1 hf w
    simp only [hfa, if_true] at fall hT1 hS1
    obtain ⟨kn', nu', re', ch', h1, h2, h3⟩ := fall (x4 := 0)
    obtain ⟨kn1, nu1, re1, ch1, j1, j2, j3⟩ := fall (x4 := 1)
    cases e : q ra with
    | none =>
      -- both ways
      rw [Option.isSome_none, if_pos (show b2i false = 0 by decide)]
      unfold f_X1_follow_94
      rw [if_pos rfl, h1]
      unfold f_X1_follow_124
      rw [if_pos rfl]
      obtain ⟨kn2, nu2, re2, ch2, i1, i2, i3⟩ := s_f143 (q := q') hn hc hi hLL hf w hT1 h2 hb hfl h3
      rw [i1]
      rw [if_pos hgo] at i2 i3
      refine ⟨_, _, _, _, rfl, ?_, ?_⟩ <;> simp <;> assumption
    | some v =>
      rw [Option.isSome_some, if_neg (show ¬ b2i true = 0 by decide)]
      unfold f_X1_follow_94
      rw [if_neg (show ¬ (1 : Int32) = 0 by decide), g, nI_clamp (by omega), ea, z0]
      simp only [Option.bind_some]
      by_cases z : v = 0
      · rw [e, z, decide_eq_true rfl, if_neg (show ¬ b2i true = 0 by decide)]
        unfold f_X1_follow_124
        rw [if_neg (show ¬ (1 : Int32) = 0 by decide), g, nI_clamp (by omega), ea, z0, e, z, decide_eq_true rfl]
        simp only [Option.bind_some]
        rw [if_neg (show ¬ b2i true = 0 by decide)]
        obtain ⟨kn2, nu2, re2, ch2, i1, i2, i3⟩ := s_f143 (q := q') hn hc hi hLL hf w hS hR hb hfl hU
        rw [i1]
        rw [if_pos hgo] at i2 i3
        refine ⟨_, _, _, _, rfl, ?_, ?_⟩ <;> simp <;> assumption
      · have zz : ¬ (some v = some (0 : Int32)) := fun t => z (Option.some.inj t)
        rw [e, decide_eq_false zz, if_pos (show b2i false = 0 by decide), j1]
        unfold f_X1_follow_124
        rw [if_neg (show ¬ (1 : Int32) = 0 by decide), g, nI_clamp (by omega), ea, s_isZero (by omega) hra (hrow j2 hS1), e, decide_eq_false zz]
        simp only [Option.bind_some]
        rw [if_pos (show b2i false = 0 by decide)]
        refine ⟨_, _, _, _, rfl, ?_, ?_⟩ <;> simp [z] <;> assumption
  · rw [if_neg (fun e => k10 ((ki10 hk).mp e))]
    unfold f_X1_follow_94
    rw [if_pos rfl]
    obtain ⟨kn', nu', re', ch', h1, h2, h3⟩ := fall (x4 := 0)
    rw [h1]
    unfold f_X1_follow_124
    rw [if_pos rfl]
    obtain ⟨kn2, nu2, re2, ch2, i1, i2, i3⟩ := s_f143 (q := q') hn hc hi hLL hf w hT1 h2 hb hfl h3
    rw [i1]
    have e2 : flw2 S i k (fd i) (fa i) q q' = (if goK k = true then cm (if faK k = true then cm S (i + 1) q' else S) (nN (fd i)) q' else (if faK k = true then cm S (i + 1) q' else S)) := by
      unfold flw2
      simp [k10]
    rw [e2]
    exact ⟨_, _, _, _, rfl, i2, i3⟩
theorem flw_T {d a b : Int32} (w : WI c k d a b) (hS : TS S) : TS (flw S i k d a b) := by
  unfold flw
  cases e : S i with
  | none => exact hS
  | some q =>
    show TS (if _ then _ else _)
    have hp := pst_T w (hS i q e)
    split
    · exact hS
    · show TS (if _ then _ else _)
      have h1 : TS (if faK k = true ∧ ¬ (k = 10 ∧ q (nN a) = some 0) then cm S (i + 1) (pst q k d a b) else S) := by
        split
        · exact cm_T hS hp
        · exact hS
      split
      · exact cm_T h1 hp
      · exact h1
theorem s_follow (hn : 8 < n) (hc : c ≤ 24) (hic : i < c) (hi : i < L) (hLL : L < 2 ^ 31) (hf : fk i = nI k) (w : WI c k (fd i) (fa i) (fb i)) (hS : TS S) (hR : RelC c S kn nu re) (hSi : S i = some q) (hU : CU c S0 ch S) :
    ∃ fl' kn' nu' re' fkn' ch', f_X1_follow n L fl kn nu re fa fb fd fk fkn ch (nI c) (nI i) = some (fl', kn', nu', re', fkn', ch') ∧ RelC c (flw S i k (fd i) (fa i) (fb i)) kn' nu' re' ∧ CU c S0 ch' (flw S i k (fd i) (fa i) (fb i)) := by
  have hk : k < 15 := by have := w.1; omega
  have g : ∀ {α : Type} {x : Option α}, gd (nI i) L x = x := pn_gd hi hLL
  have hrow : RowC q (kn i) nu i := by
    have := hR i hic
    rw [hSi] at this
    exact this.2
  rw [flw_eq hSi]
  have main : ∃ fl' kn' nu' re' fkn' ch', f_X1_follow_28 n L fl kn nu re fa fb fd fk fkn ch (nI c) (nI i) (nI k) = some (fl', kn', nu', re', fkn', ch') ∧ RelC c (flw2 S i k (fd i) (fa i) q (pst q k (fd i) (fa i) (fb i))) kn' nu' re' ∧ CU c S0 ch' (flw2 S i k (fd i) (fa i) q (pst q k (fd i) (fa i) (fb i))) := by
    unfold f_X1_follow_28
    have hfl : ∀ r, r < 8 → ∀ v, q r = some v → va_cpy nu fl (i * 8) 0 8 r = v := fun r hr v hv => by
      rw [pk_cpy_in (by omega) (by omega)]
      exact hrow.2 r hr v hv
    rw [pn_m8, gc_in ⟨nI_pos (by omega), by decide, by decide, by rw [nI_clamp (by omega)]; show i * 8 + 8 ≤ 192; omega, by decide⟩, pn_gd (show i < 24 by omega) (by omega), s_writesD k hk, nI_clamp (show i * 8 < 2 ^ 31 by omega), nI_clamp (show i < 2 ^ 31 by omega)]
    simp only [Option.bind_some]
    cases e : wrK k with
    | false =>
      rw [if_pos (show b2i false = 0 by decide)]
      have ep : pst q k (fd i) (fa i) (fb i) = q := by unfold pst; rw [if_neg (by rw [e]; decide)]
      rw [ep]
      obtain ⟨kn', nu', re', ch', h1, h2, h3⟩ := s_f69 (q := q) (q' := q) hn hc hic hi hLL hf w hS hR hSi (hS i q hSi) hrow.1 hfl hU
      exact ⟨_, _, _, _, _, _, h1, h2, h3⟩
    | true =>
      rw [if_neg (show ¬ b2i true = 0 by decide)]
      obtain ⟨fl', fkn', h1, h2, h3⟩ := s_write (by omega) hi hLL hf w e hrow hrow.1 hfl
      have : f_X1_write L (va_cpy nu fl (i * 8) (Int32.toNatClampNeg 0) (Int32.toNatClampNeg 8)) kn nu fa fb fd fk (kn i) (nI i) = some (fl', fkn') := h1
      rw [this]
      simp only [Option.bind_some]
      obtain ⟨kn', nu', re', ch', j1, j2, j3⟩ := s_f69 (q := q) hn hc hic hi hLL hf w hS hR hSi (pst_T w (hS i q hSi)) h2 h3 hU
      exact ⟨_, _, _, _, _, _, j1, j2, j3⟩
  unfold f_X1_follow
  rw [g, nI_clamp (by omega), hf]
  by_cases k6 : k = 6
  · obtain ⟨rb, hrb, eb⟩ := w.2.2.2.1 (by rw [k6]; decide)
    rw [if_pos ((ki6 hk).mpr k6), g, eb, s_isZero (by omega) hrb hrow, nN_nI hrb]
    simp only [Option.bind_some]
    by_cases z : q rb = some 0
    · rw [decide_eq_true z, if_neg (show ¬ b2i true = 0 by decide), if_pos ⟨k6, z⟩]
      exact ⟨_, _, _, _, _, _, rfl, hR, hU⟩
    · rw [decide_eq_false z, if_pos (show b2i false = 0 by decide), if_neg (fun t => z t.2), ← eb]
      exact main
  · rw [if_neg (fun e => k6 ((ki6 hk).mp e)), if_neg (fun t => k6 t.1)]
    exact main
end FC2
