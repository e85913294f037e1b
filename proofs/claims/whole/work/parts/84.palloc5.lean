section EXM
variable {c k : Nat} {hm : Nat → Nat} {h : Nat} {ho : Nat → Int32}
theorem m_sl {x : Int32} {r : Nat} (hr : r < 8) (hx : x = nI r) (hH : RelN hm 8 ho) {α : Type} {A B : Option α} : gd x 8 (if ho x.toNatClampNeg < (8 : Int32) then A else B) = if decide (8 ≤ hm (nN x)) = true then B else A := by
  have hb := (hH r hr).2
  have l8 : ((nI (hm r)) < (8 : Int32)) ↔ hm r < 8 := nI_ltI (b := 8) (by omega) (by decide)
  rw [hx, pn_gd hr (by omega), nI_clamp (by omega), (hH r hr).1, nN_nI hr]
  simp only [l8]
  by_cases z : 8 ≤ hm r
  · rw [if_neg (by omega), decide_eq_true z]; rfl
  · rw [if_pos (by omega), decide_eq_false z]; rfl
theorem m_ap {p m : Nat} {ea eb ed ek es : Nat → Int32} (hs : es 3 = nI m) (hm : m < 100) (k d a b : Int32) : f_X9_append ea eb ed ek es 3 k d a b = some (upd ea (300 + m) a, upd eb (300 + m) b, upd ed (300 + m) d, upd ek (300 + m) k, upd es 3 (nI (m + 1))) :=
  m_append (p := 3) (c := m) (by omega) hs hm k d a b
theorem m_rewrite {n i : Nat} {ea eb ed ek es : Nat → Int32} {A B D : Int32} (hi : i < 24) (hn : n + 4 ≤ 100) (hs : es 3 = nI n) (hk : ek (100 + i) = nI k) (hA : ea (100 + i) = A) (hB : eb (100 + i) = B) (hD : ed (100 + i) = D) (w : WI c k D A B) (hH : RelN hm 8 ho) :
    ∃ es', f_X9_rewrite ea eb ed ho ek es (nI i) (nI h) = some (
      emF (slX hm (raK k) A) (slX hm (rbK k) B) (slX hm (wrK k) D) ea (300 + n) (nI (hm (nN A) - 8)) (nI (hm (nN B) - 8)) (plX hm (raK k) A h) (nI h),
      emF (slX hm (raK k) A) (slX hm (rbK k) B) (slX hm (wrK k) D) eb (300 + n) 0 0 (plX hm (rbK k) B (h + 1)) (nI (hm (nN D) - 8)),
      emF (slX hm (raK k) A) (slX hm (rbK k) B) (slX hm (wrK k) D) ed (300 + n) (nI h) (nI (h + 1)) (plX hm (wrK k) D h) 0,
      emF (slX hm (raK k) A) (slX hm (rbK k) B) (slX hm (wrK k) D) ek (300 + n) 13 13 (nI k) 14, es') ∧ es' 3 = nI (n + exB (slX hm (raK k) A) (slX hm (rbK k) B) (slX hm (wrK k) D)) ∧ ∀ x, x ≠ 3 → es' x = es x := by
  have hk15 : k < 15 := by have := w.1; omega
  have n13 : (k == 13) = false := by have := w.1; simp; omega
  have n14 : (k == 14) = false := by have := w.1; simp; omega
  have g : ∀ {α : Type} {x : Option α}, gd (nI (100 + i)) 400 x = x := pn_gd (by omega) (by omega)
  have hw : f_X9_writes (nI k) = some (b2i (wrK k)) := by rw [m_writes k hk15, n13, Bool.or_false]
  have hra : f_X9_readsA (nI k) = some (b2i (raK k)) := by rw [m_readsA k hk15, n14, Bool.or_false]
  have hrb : f_X9_readsB (nI k) = some (b2i (rbK k)) := m_readsB k hk15
  have g8 : ∀ {x : Int32}, (∃ r, r < 8 ∧ x = nI r) → ∀ {α : Type} {y : Option α}, gd x 8 y = y := fun ⟨r, h1, h2⟩ => by rw [h2]; exact pn_gd h1 (by omega)
  have hplace : ∀ {b : Bool} {x : Int32} {hp : Nat}, (b = true → ∃ r, r < 8 ∧ x = nI r) → plX hm b x hp = if slX hm b x = true then nI hp else if b = true then ho (nN x) else x := fun {b x hp} hx => by
    unfold plX slX
    cases b with
    | false => rfl
    | true =>
      obtain ⟨r, r1, r2⟩ := hx rfl
      rw [if_pos rfl, Bool.true_and]
      by_cases z : 8 ≤ hm (nN x)
      · rw [if_pos z, decide_eq_true z, if_pos rfl]
      · rw [if_neg z, decide_eq_false z, if_neg (by decide), if_pos rfl, r2, nN_nI r1, (hH r r1).1]
  have s01 : ∀ (b : Bool) (x : Int32), slX hm b x = true → b = true ∧ 8 ≤ hm (nN x) := fun b x hx => by
    unfold slX at hx
    rw [Bool.and_eq_true, decide_eq_true_eq] at hx
    exact hx
  -- the instruction itself, and the SPILL
  have e261 : ∀ (m : Nat) (ea eb ed ek es : Nat → Int32) (t1 t2 t3 : Int32), es 3 = nI m → m + 2 ≤ 100 → ∃ es', f_X9_rewrite_261 ea eb ed ho ek es (nI h) (nI k) D (b2i (slX hm (wrK k) D)) t1 t2 t3 = some (apx (slX hm (wrK k) D) (upd ea (300 + m) t2) (300 + m + 1) (nI h), apx (slX hm (wrK k) D) (upd eb (300 + m) t3) (300 + m + 1) (nI (hm (nN D) - 8)), apx (slX hm (wrK k) D) (upd ed (300 + m) t1) (300 + m + 1) 0, apx (slX hm (wrK k) D) (upd ek (300 + m) (nI k)) (300 + m + 1) 14, es') ∧ es' 3 = nI (m + 1 + b2n (slX hm (wrK k) D)) ∧ ∀ x, x ≠ 3 → es' x = es x := fun m ea eb ed ek es t1 t2 t3 h1 h2 => by
    unfold f_X9_rewrite_261
    rw [m_ap (p := 0) h1 (by omega)]
    simp only [Option.bind_some]
    cases ew : slX hm (wrK k) D with
    | false =>
      refine ⟨upd es 3 (nI (m + 1)), ?_, ?_, fun x hx => upd_n _ hx⟩
      · rw [if_pos (show b2i false = 0 by decide), apx_f, apx_f, apx_f, apx_f]
      · rw [upd_s, b2n_f, Nat.add_zero (m + 1)]
    | true =>
      obtain ⟨y1, y2⟩ := s01 _ _ ew
      obtain ⟨r, r1, r2⟩ := w.2.1 y1
      rw [if_neg (show ¬ b2i true = 0 by decide), g8 ⟨r, r1, r2⟩, show ho D.toNatClampNeg - 8 = nI (hm (nN D) - 8) from h_m8 r1 r2 hH y2, m_ap (p := 0) (m := m + 1) (upd_s _ _ _) (by omega)]
      simp only [Option.bind_some]
      refine ⟨upd (upd es 3 (nI (m + 1))) 3 (nI (m + 1 + 1)), ?_, ?_, fun x hx => ?_⟩
      · rw [apx_t, apx_t, apx_t, apx_t, show 300 + (m + 1) = 300 + m + 1 by omega]
      · rw [upd_s, b2n_t]
      · rw [upd_n _ hx, upd_n _ hx]
  have e171 : ∀ (m : Nat) (ea eb ed ek es : Nat → Int32), es 3 = nI m → m + 2 ≤ 100 → ∃ es', f_X9_rewrite_171 ea eb ed ho ek es (nI h) (nI k) D A B (b2i (slX hm (wrK k) D)) (b2i (slX hm (raK k) A)) (b2i (slX hm (rbK k) B)) = some (apx (slX hm (wrK k) D) (upd ea (300 + m) (plX hm (raK k) A h)) (300 + m + 1) (nI h), apx (slX hm (wrK k) D) (upd eb (300 + m) (plX hm (rbK k) B (h + 1))) (300 + m + 1) (nI (hm (nN D) - 8)), apx (slX hm (wrK k) D) (upd ed (300 + m) (plX hm (wrK k) D h)) (300 + m + 1) 0, apx (slX hm (wrK k) D) (upd ek (300 + m) (nI k)) (300 + m + 1) 14, es') ∧ es' 3 = nI (m + 1 + b2n (slX hm (wrK k) D)) ∧ ∀ x, x ≠ 3 → es' x = es x := fun m ea eb ed ek es h1 h2 => by
    have e229 : ∀ t1 t0, f_X9_rewrite_229 ea eb ed ho ek es (nI h) (nI k) D B (b2i (slX hm (wrK k) D)) (b2i (slX hm (rbK k) B)) t1 t0 = f_X9_rewrite_261 ea eb ed ho ek es (nI h) (nI k) D (b2i (slX hm (wrK k) D)) t1 t0 (plX hm (rbK k) B (h + 1)) := fun t1 t0 => by
      unfold f_X9_rewrite_229
      rw [hplace w.2.2.2.1, hrb]
      simp only [Option.bind_some, pn_s]
      cases slX hm (rbK k) B with
      | true => rw [if_neg (show ¬ b2i true = 0 by decide), if_pos (show true = true from rfl)]
      | false =>
        cases er : rbK k with
        | false => rw [if_pos (show b2i false = 0 by decide), if_pos (show b2i false = 0 by decide), if_neg (show ¬ false = true by decide), if_neg (show ¬ false = true by decide)]
        | true => rw [if_pos (show b2i false = 0 by decide), if_neg (show ¬ b2i true = 0 by decide), g8 (w.2.2.2.1 er), if_neg (show ¬ false = true by decide), if_pos (show true = true from rfl)]
    have e199 : ∀ t0, f_X9_rewrite_199 ea eb ed ho ek es (nI h) (nI k) D A B (b2i (slX hm (wrK k) D)) (b2i (slX hm (raK k) A)) (b2i (slX hm (rbK k) B)) t0 = f_X9_rewrite_229 ea eb ed ho ek es (nI h) (nI k) D B (b2i (slX hm (wrK k) D)) (b2i (slX hm (rbK k) B)) t0 (plX hm (raK k) A h) := fun t0 => by
      unfold f_X9_rewrite_199
      rw [hplace w.2.2.1, hra]
      simp only [Option.bind_some]
      cases slX hm (raK k) A with
      | true => rw [if_neg (show ¬ b2i true = 0 by decide), if_pos (show true = true from rfl)]
      | false =>
        cases er : raK k with
        | false => rw [if_pos (show b2i false = 0 by decide), if_pos (show b2i false = 0 by decide), if_neg (show ¬ false = true by decide), if_neg (show ¬ false = true by decide)]
        | true => rw [if_pos (show b2i false = 0 by decide), if_neg (show ¬ b2i true = 0 by decide), g8 (w.2.2.1 er), if_neg (show ¬ false = true by decide), if_pos (show true = true from rfl)]
    have e1 : f_X9_rewrite_171 ea eb ed ho ek es (nI h) (nI k) D A B (b2i (slX hm (wrK k) D)) (b2i (slX hm (raK k) A)) (b2i (slX hm (rbK k) B)) = f_X9_rewrite_261 ea eb ed ho ek es (nI h) (nI k) D (b2i (slX hm (wrK k) D)) (plX hm (wrK k) D h) (plX hm (raK k) A h) (plX hm (rbK k) B (h + 1)) := by
      rw [← e229, ← e199]
      unfold f_X9_rewrite_171
      rw [hplace w.2.1, hw]
      simp only [Option.bind_some]
      cases slX hm (wrK k) D with
      | true => rw [if_neg (show ¬ b2i true = 0 by decide), if_pos (show true = true from rfl)]
      | false =>
        cases er : wrK k with
        | false => rw [if_pos (show b2i false = 0 by decide), if_pos (show b2i false = 0 by decide), if_neg (show ¬ false = true by decide), if_neg (show ¬ false = true by decide)]
        | true => rw [if_pos (show b2i false = 0 by decide), if_neg (show ¬ b2i true = 0 by decide), g8 (w.2.1 er), if_neg (show ¬ false = true by decide), if_pos (show true = true from rfl)]
    rw [e1]
    exact e261 m ea eb ed ek es _ _ _ h1 h2
  have e145 : ∀ (m : Nat) (ea eb ed ek es : Nat → Int32), es 3 = nI m → m + 3 ≤ 100 → ∃ es1, f_X9_rewrite_145 ea eb ed ho ek es (nI h) (nI k) D A B (b2i (slX hm (wrK k) D)) (b2i (slX hm (raK k) A)) (b2i (slX hm (rbK k) B)) = f_X9_rewrite_171 (apx (slX hm (rbK k) B) ea (300 + m) (nI (hm (nN B) - 8))) (apx (slX hm (rbK k) B) eb (300 + m) 0) (apx (slX hm (rbK k) B) ed (300 + m) (nI (h + 1))) ho (apx (slX hm (rbK k) B) ek (300 + m) 13) es1 (nI h) (nI k) D A B (b2i (slX hm (wrK k) D)) (b2i (slX hm (raK k) A)) (b2i (slX hm (rbK k) B)) ∧ es1 3 = nI (m + b2n (slX hm (rbK k) B)) ∧ ∀ x, x ≠ 3 → es1 x = es x := fun m ea eb ed ek es h1 h2 => by
    unfold f_X9_rewrite_145
    cases er : slX hm (rbK k) B with
    | false => exact ⟨es, by rw [if_pos (show b2i false = 0 by decide), apx_f, apx_f, apx_f, apx_f], by rw [b2n_f, Nat.add_zero m]; exact h1, fun _ _ => rfl⟩
    | true =>
      obtain ⟨y1, y2⟩ := s01 _ _ er
      obtain ⟨r, r1, r2⟩ := w.2.2.2.1 y1
      rw [if_neg (show ¬ b2i true = 0 by decide), g8 ⟨r, r1, r2⟩, show ho B.toNatClampNeg - 8 = nI (hm (nN B) - 8) from h_m8 r1 r2 hH y2, m_ap (p := 0) h1 (by omega), pn_s]
      simp only [Option.bind_some]
      exact ⟨upd es 3 (nI (m + 1)), by rw [apx_t, apx_t, apx_t, apx_t], by rw [upd_s, b2n_t], fun x hx => upd_n _ hx⟩
  have e119 : ∃ es1, f_X9_rewrite_119 ea eb ed ho ek es (nI h) (nI k) D A B (b2i (slX hm (wrK k) D)) (b2i (slX hm (raK k) A)) (b2i (slX hm (rbK k) B)) = f_X9_rewrite_145 (apx (slX hm (raK k) A) ea (300 + n) (nI (hm (nN A) - 8))) (apx (slX hm (raK k) A) eb (300 + n) 0) (apx (slX hm (raK k) A) ed (300 + n) (nI h)) ho (apx (slX hm (raK k) A) ek (300 + n) 13) es1 (nI h) (nI k) D A B (b2i (slX hm (wrK k) D)) (b2i (slX hm (raK k) A)) (b2i (slX hm (rbK k) B)) ∧ es1 3 = nI (n + b2n (slX hm (raK k) A)) ∧ ∀ x, x ≠ 3 → es1 x = es x := by
    unfold f_X9_rewrite_119
    cases er : slX hm (raK k) A with
    | false => exact ⟨es, by rw [if_pos (show b2i false = 0 by decide), apx_f, apx_f, apx_f, apx_f], by rw [b2n_f, Nat.add_zero n]; exact hs, fun _ _ => rfl⟩
    | true =>
      obtain ⟨y1, y2⟩ := s01 _ _ er
      obtain ⟨r, r1, r2⟩ := w.2.2.1 y1
      rw [if_neg (show ¬ b2i true = 0 by decide), g8 ⟨r, r1, r2⟩, show ho A.toNatClampNeg - 8 = nI (hm (nN A) - 8) from h_m8 r1 r2 hH y2, m_ap (p := 0) hs (by omega)]
      simp only [Option.bind_some]
      exact ⟨upd es 3 (nI (n + 1)), by rw [apx_t, apx_t, apx_t, apx_t], by rw [upd_s, b2n_t], fun x hx => upd_n _ hx⟩
  have e93 : ∀ t7 t8, f_X9_rewrite_93 ea eb ed ho ek es (nI h) (nI k) D A B t7 t8 = f_X9_rewrite_119 ea eb ed ho ek es (nI h) (nI k) D A B t7 t8 (b2i (slX hm (rbK k) B)) := fun t7 t8 => by
    unfold f_X9_rewrite_93 slX
    rw [hrb]
    simp only [Option.bind_some]
    cases er : rbK k with
    | false => rw [if_pos (show b2i false = 0 by decide), Bool.false_and, b2i_f]
    | true =>
      obtain ⟨r, r1, r2⟩ := w.2.2.2.1 er
      rw [if_neg (show ¬ b2i true = 0 by decide), m_sl r1 r2 hH, Bool.true_and]
      cases decide (8 ≤ hm (nN B)) with
      | true => rw [if_pos (show true = true from rfl), b2i_t]
      | false => rw [if_neg (show ¬ false = true by decide), b2i_f]
  have e67 : ∀ t7, f_X9_rewrite_67 ea eb ed ho ek es (nI h) (nI k) D A B t7 = f_X9_rewrite_93 ea eb ed ho ek es (nI h) (nI k) D A B t7 (b2i (slX hm (raK k) A)) := fun t7 => by
    unfold f_X9_rewrite_67 slX
    rw [hra]
    simp only [Option.bind_some]
    cases er : raK k with
    | false => rw [if_pos (show b2i false = 0 by decide), Bool.false_and, b2i_f]
    | true =>
      obtain ⟨r, r1, r2⟩ := w.2.2.1 er
      rw [if_neg (show ¬ b2i true = 0 by decide), m_sl r1 r2 hH, Bool.true_and]
      cases decide (8 ≤ hm (nN A)) with
      | true => rw [if_pos (show true = true from rfl), b2i_t]
      | false => rw [if_neg (show ¬ false = true by decide), b2i_f]
  have e0 : f_X9_rewrite ea eb ed ho ek es (nI i) (nI h) = f_X9_rewrite_67 ea eb ed ho ek es (nI h) (nI k) D A B (b2i (slX hm (wrK k) D)) := by
    unfold f_X9_rewrite slX
    rw [pn_h]
    simp only [g]
    rw [nI_clamp (by omega), hk, hA, hB, hD, hw]
    simp only [Option.bind_some]
    cases er : wrK k with
    | false => rw [if_pos (show b2i false = 0 by decide), Bool.false_and, b2i_f]
    | true =>
      obtain ⟨r, r1, r2⟩ := w.2.1 er
      rw [if_neg (show ¬ b2i true = 0 by decide), m_sl r1 r2 hH, Bool.true_and]
      cases decide (8 ≤ hm (nN D)) with
      | true => rw [if_pos (show true = true from rfl), b2i_t]
      | false => rw [if_neg (show ¬ false = true by decide), b2i_f]
  have a1 := b2n_1 (slX hm (raK k) A)
  have a2 := b2n_1 (slX hm (rbK k) B)
  obtain ⟨es1, f1, f2, f3⟩ := e119
  obtain ⟨es2, f4, f5, f6⟩ := e145 (n + b2n (slX hm (raK k) A)) (apx (slX hm (raK k) A) ea (300 + n) (nI (hm (nN A) - 8))) (apx (slX hm (raK k) A) eb (300 + n) 0) (apx (slX hm (raK k) A) ed (300 + n) (nI h)) (apx (slX hm (raK k) A) ek (300 + n) 13) es1 f2 (by omega)
  obtain ⟨es3, f7, f8, f9⟩ := e171 _ _ _ _ _ es2 f5 (by omega)
  refine ⟨es3, ?_, ?_, fun x hx => by rw [f9 x hx, f6 x hx, f3 x hx]⟩
  · rw [e0, e67, e93, f1, f4, f7]
    unfold emF
    have q1 : 300 + (n + b2n (slX hm (raK k) A)) = 300 + n + b2n (slX hm (raK k) A) := by omega
    have q2 : 300 + (n + b2n (slX hm (raK k) A) + b2n (slX hm (rbK k) B)) = 300 + n + b2n (slX hm (raK k) A) + b2n (slX hm (rbK k) B) := by omega
    rw [q1, q2]
  · rw [f8]
    unfold exB
    congr 1
    omega
end EXM
