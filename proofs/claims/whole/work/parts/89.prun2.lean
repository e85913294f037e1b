/-! RUN: one step in the reference. -/
section RM
variable {k i base : Nat} {M R Sl T ga gb gd9 gk : Nat → Int32} {tc : Nat} {d a b : Int32}
theorem div100 : ∀ x, x < 200 → nI x / (100 : Int32) * (100 : Int32) = nI (x / 100 * 100) := by decide +kernel
theorem base100 {base i : Nat} (hb : base = 0 ∨ base = 100) (hi : i < 100) : nI (base + i) / (100 : Int32) * (100 : Int32) = nI base := by
  rw [div100 _ (by omega)]
  congr 1
  omega
theorem m_337 (hb : base = 0 ∨ base = 100) (hi : i < 100) (hd : gd9 (base + i) = d) (w : WA k d a b) (s e v : Int32) (X : Int32) (hX : k = 10 → X = R (nN a)) (M' R' Sl' T' : Nat → Int32) (tc' : Int32) :
    f_X9_step_337 ga gb gd9 gk M' R' Sl' T' tc' s e v (nI (base + i)) (nI k) X = some (nI (base + nxJ k d a R i), M', R', Sl', T', tc', s, e, v) := by
  have hk : k < 15 := by have := w.1; omega
  have g : ∀ {α : Type} {x : Option α}, gd (nI (base + i)) 400 x = x := pn_gd (by omega) (by omega)
  have t0 : f_X9_step_358 ga gb gd9 gk M' R' Sl' T' tc' s e v (nI (base + i)) 0 = some (nI (base + (i + 1)), M', R', Sl', T', tc', s, e, v) := by
    unfold f_X9_step_358
    rw [if_pos rfl, pn_s, Nat.add_assoc]
  have t1 : goK k = true → f_X9_step_358 ga gb gd9 gk M' R' Sl' T' tc' s e v (nI (base + i)) 1 = some (nI (base + nN d), M', R', Sl', T', tc', s, e, v) := fun hg => by
    obtain ⟨t, t1, t2⟩ := w.2.2.2.2 hg
    unfold f_X9_step_358
    rw [if_neg (show ¬ (1 : Int32) = 0 by decide), g, nI_clamp (show base + i < 2 ^ 31 by omega), hd, base100 hb hi, t2, nI_add, nN, nI_clamp (by omega)]
  unfold f_X9_step_337 nxJ
  simp only [ki9 hk, ki10 hk]
  by_cases k9 : k = 9
  · rw [if_pos k9, if_pos (Or.inl k9)]
    exact t1 (by rw [k9]; decide)
  · rw [if_neg k9]
    by_cases k10 : k = 10
    · rw [if_pos k10, hX k10]
      by_cases z : R (nN a) = 0
      · rw [if_pos z, if_pos (Or.inr ⟨k10, z⟩)]
        exact t1 (by rw [k10]; decide)
      · rw [if_neg z, if_neg (fun h => by rcases h with h | h; exact k9 h; exact z h.2)]
        exact t0
    · rw [if_neg k10, if_neg (fun h => by rcases h with h | h; exact k9 h; exact k10 h.1)]
      exact t0
theorem m_237 (hb : base = 0 ∨ base = 100) (hi : i < 100) (hd : gd9 (base + i) = d) (ha : ga (base + i) = a) (w : WA k d a b) (s e v : Int32) (X Y : Int32) (hX : (raK k || k == 14) = true → X = R (nN a)) (hY : rbK k = true → Y = R (nN b)) (hf : flt k a b R tc = 0) (M' T' : Nat → Int32) (hM : k = 7 → M' = M) (Sl' : Nat → Int32) (hS : k = 13 → Sl' = Sl) (tc' : Int32) (htc : k = 11 → tc' = nI (tc + 1)) :
    f_X9_step_237 ga gb gd9 gk M' R Sl' T' tc' s e v (nI (base + i)) (nI k) X Y = some (nI (base + nxJ k d a R i), M', nxR k d R (nxV k a b R Sl M tc), Sl', T', tc', s, e, v) := by
  have hk : k < 15 := by have := w.1; omega
  have g : ∀ {α : Type} {x : Option α}, gd (nI (base + i)) 400 x = x := pn_gd (by omega) (by omega)
  have h337 := fun R' => m_337 (ga := ga) (gb := gb) (gk := gk) (R := R) hb hi hd w s e v X (fun h => hX (by rw [h]; decide)) M' R' Sl' T' tc'
  unfold f_X9_step_237 f_X9_step_336
  simp only [g, nI_clamp (show base + i < 2 ^ 31 by omega), hd, ha]
  rw [m_writes k hk]
  simp only [Option.bind_some, h337]
  unfold nxR
  cases ew : (wrK k || k == 13) with
  | false => rfl
  | true =>
    obtain ⟨rd, d1, d2⟩ := w.2.1 ew
    have g8 : ∀ {α : Type} {x : Option α}, gd d 8 x = x := by rw [d2]; exact pn_gd d1 (by omega)
    have hdc : d.toNatClampNeg = nN d := rfl
    rw [if_neg (show ¬ b2i true = 0 by decide), if_pos rfl]
    simp only [g8, ki1 hk, ki2 hk, ki7 hk, ki11 hk, ki13 hk]
    unfold nxV
    by_cases k1 : k = 1
    · rw [if_pos k1, if_pos k1]
    rw [if_neg k1, if_neg k1]
    by_cases k2 : k = 2
    · rw [if_pos k2, if_pos k2, hX (by rw [k2]; decide)]
    rw [if_neg k2, if_neg k2]
    by_cases k7 : k = 7
    · have hx := hX (by rw [k7]; decide)
      have hc : rgI (R (nN a)) = true := by
        cases er : rgI (R (nN a)) with
        | true => rfl
        | false =>
          unfold flt at hf
          rw [if_neg (show ¬ (k = 6 ∧ R (nN b) = 0) from fun t => by omega), if_pos ⟨Or.inl k7, er⟩] at hf
          cases hf
      obtain ⟨j, j1, j2⟩ := rg_cell hc
      rw [if_pos k7, if_pos k7, hx, hM k7, j2, pn_gd j1 (by omega)]
    rw [if_neg k7, if_neg k7]
    by_cases k11 : k = 11
    · rw [if_pos k11, if_pos k11, hX (by rw [k11]; decide), htc k11]
    rw [if_neg k11, if_neg k11]
    by_cases k13 : k = 13
    · obtain ⟨ra, a1, a2⟩ := w.2.2.1 (by rw [k13]; decide)
      rw [if_pos k13, if_pos k13, hS k13, a2, pn_gd a1 (by omega)]
    rw [if_neg k13, if_neg k13]
    have har : 3 ≤ k ∧ k ≤ 6 := by
      have e13 : (k == 13) = false := by simp [k13]
      rw [e13, Bool.or_false] at ew
      unfold wrK at ew
      simp at ew
      omega
    have hra : (raK k || k == 14) = true := by unfold raK; simp; omega
    have hrb : rbK k = true := by unfold rbK; simp; omega
    rw [hX hra, hY hrb, m_reckon har.1 har.2 _ _ (fun k6 => fun t => by
      unfold flt at hf
      rw [if_pos ⟨k6, t⟩] at hf
      cases hf)]
    rfl
theorem m_179 (hb : base = 0 ∨ base = 100) (hi : i < 100) (hd : gd9 (base + i) = d) (ha : ga (base + i) = a) (hbb : gb (base + i) = b) (w : WA k d a b) (htc : tc ≤ 16) (s e v : Int32) (X Y : Int32) (hX : (raK k || k == 14) = true → X = R (nN a)) (hY : rbK k = true → Y = R (nN b)) (hf : flt k a b R tc = 0) :
    f_X9_step_179 ga gb gd9 gk M R Sl T (nI tc) s e v (nI (base + i)) (nI k) X Y = some (nI (base + nxJ k d a R i), nxM k a b R M, nxR k d R (nxV k a b R Sl M tc), nxS k a b R Sl, nxT k a R T tc, nI (nxC k tc), s, e, v) := by
  have hk : k < 15 := by have := w.1; omega
  have g : ∀ {α : Type} {x : Option α}, gd (nI (base + i)) 400 x = x := pn_gd (by omega) (by omega)
  have h237 := fun M' Sl' T' tc' hM hS h11 => m_237 (ga := ga) (gb := gb) (gk := gk) (Sl := Sl) (M := M) hb hi hd ha w s e v X Y hX hY hf M' T' hM Sl' hS tc' h11
  unfold f_X9_step_179 f_X9_step_193 f_X9_step_211 nxM nxS nxT nxC
  simp only [ki8 hk, ki14 hk, ki11 hk, g, nI_clamp (show base + i < 2 ^ 31 by omega), hbb]
  by_cases k8 : k = 8
  · have hx := hX (by rw [k8]; decide)
    have hc : rgI (R (nN a)) = true := by
      cases er : rgI (R (nN a)) with
      | true => rfl
      | false =>
        unfold flt at hf
        rw [if_neg (show ¬ (k = 6 ∧ R (nN b) = 0) from fun t => by omega), if_pos ⟨Or.inr k8, er⟩] at hf
        cases hf
    obtain ⟨j, j1, j2⟩ := rg_cell hc
    have n14 : ¬ k = 14 := by omega
    have n11 : ¬ k = 11 := by omega
    rw [if_pos k8, if_neg n14, if_neg n11, if_pos k8, if_neg n14, if_neg n11, if_neg n11, hx, hY (by rw [k8]; decide), j2, pn_gd j1 (by omega)]
    have := h237 (upd M (nN (nI j)) (R (nN b))) Sl T (nI tc) (fun h => by omega) (fun h => by omega) (fun h => by omega)
    rw [hx, hY (by rw [k8]; decide), j2] at this
    exact this
  by_cases k14 : k = 14
  · have hx := hX (by rw [k14]; decide)
    obtain ⟨rb, b1, b2⟩ := w.2.2.2.1 (by rw [k14]; decide)
    have n8 : ¬ k = 8 := by omega
    have n11 : ¬ k = 11 := by omega
    rw [if_neg n8, if_pos k14, if_neg n11, if_neg n8, if_pos k14, if_neg n11, if_neg n11]
    have g8 : ∀ {α : Type} {x : Option α}, gd b 8 x = x := by rw [b2]; exact pn_gd b1 (by omega)
    rw [g8]
    have := h237 M (upd Sl (nN b) X) T (nI tc) (fun _ => rfl) (fun h => by omega) (fun h => by omega)
    rw [this, hx]
  by_cases k11 : k = 11
  · have hx := hX (by rw [k11]; decide)
    have ht : tc < 16 := by
      by_cases z : 16 ≤ tc
      · unfold flt at hf
        rw [if_neg (show ¬ (k = 6 ∧ R (nN b) = 0) from fun t => by omega), if_neg (show ¬ ((k = 7 ∨ k = 8) ∧ rgI (R (nN a)) = false) from fun t => by omega), if_pos ⟨k11, z⟩] at hf
        cases hf
      · omega
    rw [if_neg k8, if_neg k14, if_pos k11, pn_gd ht (by omega), nI_clamp (by omega), pn_s, if_neg k8, if_neg k14, if_pos k11, if_pos k11]
    have := h237 M Sl (upd T tc X) (nI (tc + 1)) (fun _ => rfl) (fun _ => rfl) (fun _ => rfl)
    rw [this, hx]
  · rw [if_neg k8, if_neg k14, if_neg k11, if_neg k8, if_neg k14, if_neg k11, if_neg k11]
    exact h237 M Sl T (nI tc) (fun _ => rfl) (fun _ => rfl) (fun h => absurd h k11)
theorem m_step {st : Nat} (hb : base = 0 ∨ base = 100) (hi : i < 100) (hk0 : gk (base + i) = nI k) (hd : gd9 (base + i) = d) (ha : ga (base + i) = a) (hbb : gb (base + i) = b) (w : WA k d a b) (htc : tc ≤ 16) (hst : st ≤ 400) (v ee : Int32) :
    f_X9_step ga gb gd9 gk M R Sl T (nI tc) (nI st) ee v (nI (base + i)) = some (
      if st = 400 then (nI (base + i), M, R, Sl, T, nI tc, nI st, 3, v)
      else if flt k a b R tc = 0 then (nI (base + nxJ k d a R i), nxM k a b R M, nxR k d R (nxV k a b R Sl M tc), nxS k a b R Sl, nxT k a R T tc, nI (nxC k tc), nI (st + 1), if k = 12 then 0 else -1, if k = 12 then R (nN a) else v)
      else (nI (base + i), M, R, Sl, T, nI tc, nI st, nI (flt k a b R tc), v)) := by
  have hk : k < 15 := by have := w.1; omega
  have g : ∀ {α : Type} {x : Option α}, gd (nI (base + i)) 400 x = x := pn_gd (by omega) (by omega)
  have hcl : (nI (base + i)).toNatClampNeg = base + i := nI_clamp (by omega)
  -- the two numbers read
  have e0 : ∃ X, ((raK k || k == 14) = true → X = R (nN a)) ∧ f_X9_step ga gb gd9 gk M R Sl T (nI tc) (nI st) ee v (nI (base + i)) = f_X9_step_29 ga gb gd9 gk M R Sl T (nI tc) (nI st) ee v (nI (base + i)) (nI k) X := by
    unfold f_X9_step
    simp only [g, hcl]
    rw [hk0, m_readsA k hk]
    simp only [Option.bind_some]
    cases er : (raK k || k == 14) with
    | false => exact ⟨0, (fun h => by cases h), rfl⟩
    | true =>
      obtain ⟨r, r1, r2⟩ := w.2.2.1 (by
        rw [Bool.or_eq_true] at er
        rcases er with h | h
        · rw [h]; rfl
        · rw [h, Bool.or_true])
      rw [if_neg (show ¬ b2i true = 0 by decide), ha]
      refine ⟨R (nN a), fun _ => rfl, ?_⟩
      rw [r2, pn_gd r1 (by omega)]
  obtain ⟨X, hX, e0⟩ := e0
  have e1 : ∃ Y, (rbK k = true → Y = R (nN b)) ∧ f_X9_step_29 ga gb gd9 gk M R Sl T (nI tc) (nI st) ee v (nI (base + i)) (nI k) X = f_X9_step_52 ga gb gd9 gk M R Sl T (nI tc) (nI st) ee v (nI (base + i)) (nI k) X Y := by
    unfold f_X9_step_29
    simp only [g, hcl]
    rw [m_readsB k hk, hbb]
    simp only [Option.bind_some]
    cases er : rbK k with
    | false => exact ⟨0, (fun h => by cases h), rfl⟩
    | true =>
      obtain ⟨r, r1, r2⟩ := w.2.2.2.1 (by rw [er]; rfl)
      rw [if_neg (show ¬ b2i true = 0 by decide)]
      refine ⟨R (nN b), fun _ => rfl, ?_⟩
      rw [r2, pn_gd r1 (by omega)]
  obtain ⟨Y, hY, e1⟩ := e1
  have h179 := fun s e v => m_179 (M := M) (Sl := Sl) (T := T) (gk := gk) (tc := tc) hb hi hd ha hbb w htc s e v X Y hX hY
  have l400 : (nI st = (400 : Int32)) ↔ st = 400 := nI_eq (b := 400) (by omega) (by decide)
  have l16 : (nI tc = (16 : Int32)) ↔ tc = 16 := nI_eq (b := 16) (by omega) (by decide)
  have e141 : ∀ c : Int32, ¬ c < 0 → f_X9_step_141 ga gb gd9 gk M R Sl T (nI tc) (nI st) ee v (nI (base + i)) (nI k) X Y c = some (nI (base + i), M, R, Sl, T, nI tc, nI st, c, v) := fun c hc => by
    unfold f_X9_step_141
    rw [if_neg hc]
  have go : flt k a b R tc = 0 → f_X9_step_141 ga gb gd9 gk M R Sl T (nI tc) (nI st) ee v (nI (base + i)) (nI k) X Y (-1) = some (nI (base + nxJ k d a R i), nxM k a b R M, nxR k d R (nxV k a b R Sl M tc), nxS k a b R Sl, nxT k a R T tc, nI (nxC k tc), nI (st + 1), if k = 12 then 0 else -1, if k = 12 then R (nN a) else v) := fun hf => by
    unfold f_X9_step_141
    rw [if_pos (show (-1 : Int32) < 0 by decide), pn_s]
    simp only [ki12 hk]
    by_cases k12 : k = 12
    · rw [if_pos k12, h179 _ _ _ hf, if_pos k12, if_pos k12, hX (by rw [k12]; decide)]
    · rw [if_neg k12, h179 _ _ _ hf, if_neg k12, if_neg k12]
  have e121 : ¬ (k = 6 ∧ R (nN b) = 0) → ¬ ((k = 7 ∨ k = 8) ∧ rgI (R (nN a)) = false) → f_X9_step_121 ga gb gd9 gk M R Sl T (nI tc) (nI st) ee v (nI (base + i)) (nI k) X Y = some (if flt k a b R tc = 0 then (nI (base + nxJ k d a R i), nxM k a b R M, nxR k d R (nxV k a b R Sl M tc), nxS k a b R Sl, nxT k a R T tc, nI (nxC k tc), nI (st + 1), if k = 12 then 0 else -1, if k = 12 then R (nN a) else v) else (nI (base + i), M, R, Sl, T, nI tc, nI st, nI (flt k a b R tc), v)) := fun n6 n78 => by
    unfold f_X9_step_121
    simp only [ki11 hk, l16]
    have hfl : flt k a b R tc = if k = 11 ∧ 16 ≤ tc then 4 else 0 := by unfold flt; rw [if_neg n6, if_neg n78]
    by_cases k11 : k = 11
    · rw [if_pos k11]
      by_cases z : tc = 16
      · have h4 : flt k a b R tc = 4 := by rw [hfl, if_pos ⟨k11, by omega⟩]
        rw [if_pos z, h4, if_neg (by decide), e141 4 (by decide)]
        rfl
      · have h0 : flt k a b R tc = 0 := by rw [hfl, if_neg (fun t => by omega)]
        rw [if_neg z, go h0, if_pos h0]
    · have h0 : flt k a b R tc = 0 := by rw [hfl, if_neg (fun t => k11 t.1)]
      rw [if_neg k11, go h0, if_pos h0]
  have e71 : ∀ t0, t0 = b2i (decide (k = 7 ∨ k = 8)) → f_X9_step_71 ga gb gd9 gk M R Sl T (nI tc) (nI st) ee v (nI (base + i)) (nI k) X Y t0 = some (
      if st = 400 then (nI (base + i), M, R, Sl, T, nI tc, nI st, 3, v)
      else if flt k a b R tc = 0 then (nI (base + nxJ k d a R i), nxM k a b R M, nxR k d R (nxV k a b R Sl M tc), nxS k a b R Sl, nxT k a R T tc, nI (nxC k tc), nI (st + 1), if k = 12 then 0 else -1, if k = 12 then R (nN a) else v)
      else (nI (base + i), M, R, Sl, T, nI tc, nI st, nI (flt k a b R tc), v)) := fun t0 ht0 => by
    unfold f_X9_step_71
    simp only [l400, ki6 hk]
    by_cases z : st = 400
    · rw [if_pos z, if_pos z]; exact e141 3 (by decide)
    · rw [if_neg z, if_neg z]
      have e103 : ¬ (k = 6 ∧ R (nN b) = 0) → f_X9_step_103 ga gb gd9 gk M R Sl T (nI tc) (nI st) ee v (nI (base + i)) (nI k) X Y t0 = some (if flt k a b R tc = 0 then (nI (base + nxJ k d a R i), nxM k a b R M, nxR k d R (nxV k a b R Sl M tc), nxS k a b R Sl, nxT k a R T tc, nI (nxC k tc), nI (st + 1), if k = 12 then 0 else -1, if k = 12 then R (nN a) else v) else (nI (base + i), M, R, Sl, T, nI tc, nI st, nI (flt k a b R tc), v)) := fun n6 => by
        unfold f_X9_step_103
        rw [ht0]
        by_cases k78 : k = 7 ∨ k = 8
        · have hx := hX (by rcases k78 with h | h <;> rw [h] <;> decide)
          rw [decide_eq_true k78, if_neg (show ¬ b2i true = 0 by decide), hx, m_out8]
          simp only [Option.bind_some]
          cases er : rgI (R (nN a)) with
          | true =>
            have := e121 n6 (fun t => by rw [er] at t; cases t.2)
            rw [hx] at this
            rw [if_pos (show b2i (!true) = 0 by decide)]
            exact this
          | false =>
            have h2 : flt k a b R tc = 2 := by unfold flt; rw [if_neg n6, if_pos ⟨k78, er⟩]
            have := e141 2 (by decide)
            rw [hx] at this
            rw [if_neg (show ¬ b2i (!false) = 0 by decide), this, h2, if_neg (by decide)]
            rfl
        · rw [decide_eq_false k78, if_pos (show b2i false = 0 by decide)]
          exact e121 n6 (fun t => k78 t.1)
      by_cases k6 : k = 6
      · rw [if_pos k6, hY (by rw [k6]; decide)]
        by_cases y : R (nN b) = 0
        · have h1 : flt k a b R tc = 1 := by unfold flt; rw [if_pos ⟨k6, y⟩]
          rw [if_pos y, h1, if_neg (by decide)]
          have := e141 1 (by decide)
          rw [hY (by rw [k6]; decide)] at this
          exact this
        · rw [if_neg y]
          have := e103 (fun t => y t.2)
          rw [hY (by rw [k6]; decide)] at this
          exact this
      · rw [if_neg k6]
        exact e103 (fun t => k6 t.1)
  rw [e0, e1]
  unfold f_X9_step_52
  simp only [ki7 hk, ki8 hk]
  by_cases k7 : k = 7
  · rw [if_pos k7]; exact e71 1 (by rw [decide_eq_true (Or.inl k7)]; rfl)
  · rw [if_neg k7]
    by_cases k8 : k = 8
    · rw [if_pos k8]; exact e71 1 (by rw [decide_eq_true (Or.inr k8)]; rfl)
    · rw [if_neg k8]
      exact e71 0 (by rw [decide_eq_false (fun t => by rcases t with t | t; exact k7 t; exact k8 t)]; rfl)
end RM
