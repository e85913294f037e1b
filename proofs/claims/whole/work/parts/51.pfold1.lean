/-! FOLD, one instruction: what it gives, on both sides. -/
abbrev nN (x : Int32) : Nat := x.toNatClampNeg
/-- an instruction that fits a program of c instructions -/
def WI (c k : Nat) (d a b : Int32) : Prop := k ≤ 12 ∧ (wrK k = true → ∃ r, r < 8 ∧ d = nI r) ∧ (raK k = true → ∃ r, r < 8 ∧ a = nI r) ∧ (rbK k = true → ∃ r, r < 8 ∧ b = nI r) ∧ (goK k = true → ∃ t, t ≤ c ∧ d = nI t) ∧ ((wrK k || goK k) = false → d = 0) ∧ ((raK k || k == 1) = false → a = 0) ∧ (rbK k = false → b = 0)
theorem nN_nI {r : Nat} (h : r < 8) : nN (nI r) = r := nI_clamp (by omega)
/-- the number that an instruction gives -/
def gv (q : Nat → Option Int32) (k : Nat) (a b : Int32) : Option Int32 :=
  if k = 1 then some a else if k = 2 then q (nN a) else if arK k = true then
    (q (nN a)).bind (fun x => (q (nN b)).bind (fun y => if k = 6 ∧ y = 0 then none else some (evK k x y))) else none
def RowC (q : Nat → Option Int32) (x : Int32) (num : Nat → Int32) (i : Nat) : Prop := IsBs x (fun r => (q r).isSome) ∧ ∀ r, r < 8 → ∀ v, q r = some v → num (i * 8 + r) = v
def RowM (q : Nat → Option Int32) (kn num : Nat → Int32) (i : Nat) : Prop := ∀ r, r < 8 → kn (8 * i + r) = b2i (q r).isSome ∧ ∀ v, q r = some v → num (8 * i + r) = v
theorem b2i_ne (b : Bool) : (¬ b2i b = 0) ↔ b = true := by cases b <;> decide
theorem b2i_e1 (b : Bool) : (b2i b = 1) ↔ b = true := by cases b <;> decide
theorem s_knows {kn : Nat → Int32} {p : Nat → Bool} {i r : Nat} (hi : i < 24) (hr : r < 8) (h : IsBs (kn i) p) : f_X1_knows kn (nI i) (nI r) = some (b2i (p r)) := by
  unfold f_X1_knows
  rw [pn_gd hi (by omega), nI_clamp (by omega)]
  by_cases c : p r = true
  · rw [if_pos ((bs_get h hr).mpr c), c]; rfl
  · rw [if_neg (fun e => c ((bs_get h hr).mp e)), eq_false_of_ne_true c]; rfl
theorem s_number {nu : Nat → Int32} {i r : Nat} (hi : i < 24) (hr : r < 8) : f_X1_number nu (nI i) (nI r) = some (nu (i * 8 + r)) := by
  unfold f_X1_number
  rw [pn_m8, nI_add, pn_gd (by omega) (by omega), nI_clamp (by omega)]
theorem s_isZero {kn nu : Nat → Int32} {q : Nat → Option Int32} {i r : Nat} (hi : i < 24) (hr : r < 8) (h : RowC q (kn i) nu i) : f_X1_isZero kn nu (nI i) (nI r) = some (b2i (decide (q r = some 0))) := by
  unfold f_X1_isZero
  rw [s_knows hi hr h.1]
  simp only [Option.bind_some]
  cases e : q r with
  | none => rfl
  | some v =>
    have := h.2 r hr v e
    simp only [Option.isSome_some]
    rw [if_neg (show ¬ b2i true = 0 by decide), s_number hi hr, this]
    simp only [Option.bind_some]
    by_cases z : v = 0
    · subst z; rfl
    · rw [if_neg z, decide_eq_false (by simpa using z)]; rfl
theorem nI_is {k : Nat} (hk : k < 15) {m : Nat} (hm : m < 15) : (nI k = nI m) ↔ k = m := nI_eq (by omega) (by omega)
theorem ki0 {k : Nat} (hk : k < 15) : (nI k = (0 : Int32)) ↔ k = 0 := nI_is hk (m := 0) (by decide)
theorem ki1 {k : Nat} (hk : k < 15) : (nI k = (1 : Int32)) ↔ k = 1 := nI_is hk (m := 1) (by decide)
theorem ki2 {k : Nat} (hk : k < 15) : (nI k = (2 : Int32)) ↔ k = 2 := nI_is hk (m := 2) (by decide)
theorem ki3 {k : Nat} (hk : k < 15) : (nI k = (3 : Int32)) ↔ k = 3 := nI_is hk (m := 3) (by decide)
theorem ki4 {k : Nat} (hk : k < 15) : (nI k = (4 : Int32)) ↔ k = 4 := nI_is hk (m := 4) (by decide)
theorem ki5 {k : Nat} (hk : k < 15) : (nI k = (5 : Int32)) ↔ k = 5 := nI_is hk (m := 5) (by decide)
theorem ki6 {k : Nat} (hk : k < 15) : (nI k = (6 : Int32)) ↔ k = 6 := nI_is hk (m := 6) (by decide)
theorem ki7 {k : Nat} (hk : k < 15) : (nI k = (7 : Int32)) ↔ k = 7 := nI_is hk (m := 7) (by decide)
theorem ki8 {k : Nat} (hk : k < 15) : (nI k = (8 : Int32)) ↔ k = 8 := nI_is hk (m := 8) (by decide)
theorem ki9 {k : Nat} (hk : k < 15) : (nI k = (9 : Int32)) ↔ k = 9 := nI_is hk (m := 9) (by decide)
theorem ki10 {k : Nat} (hk : k < 15) : (nI k = (10 : Int32)) ↔ k = 10 := nI_is hk (m := 10) (by decide)
theorem ki11 {k : Nat} (hk : k < 15) : (nI k = (11 : Int32)) ↔ k = 11 := nI_is hk (m := 11) (by decide)
theorem ki12 {k : Nat} (hk : k < 15) : (nI k = (12 : Int32)) ↔ k = 12 := nI_is hk (m := 12) (by decide)
theorem ki13 {k : Nat} (hk : k < 15) : (nI k = (13 : Int32)) ↔ k = 13 := nI_is hk (m := 13) (by decide)
theorem ki14 {k : Nat} (hk : k < 15) : (nI k = (14 : Int32)) ↔ k = 14 := nI_is hk (m := 14) (by decide)
theorem ar_of : ∀ k, k < 15 → arK k = true → raK k = true ∧ rbK k = true ∧ wrK k = true ∧ 3 ≤ k ∧ k ≤ 6 := by decide
section FO
variable {L : Nat} {kn nu fa fb fk : Nat → Int32} {q : Nat → Option Int32} {c i k : Nat} {d : Int32}
theorem s_gives56 (hi : i < 24) (hL : i < L) (hLL : L < 2 ^ 31) (ha : arK k = true → ∃ r, r < 8 ∧ fa i = nI r) (hb : arK k = true → ∃ r, r < 8 ∧ fb i = nI r) (hk : k < 15) (h : RowC q (kn i) nu i) (z : Bool) :
    f_X1_givesNumber_56 L kn nu fa fb fk (nI i) (nI k) (b2i z) = some (b2i (arK k && !z && (q (nN (fa i))).isSome && (q (nN (fb i))).isSome)) := by
  unfold f_X1_givesNumber_56
  rw [s_isArithmetic k hk]
  simp only [Option.bind_some]
  cases e : arK k with
  | false => rfl
  | true =>
    obtain ⟨ra, hra, ea⟩ := ha e
    obtain ⟨rb, hrb, eb⟩ := hb e
    rw [if_neg (show ¬ b2i true = 0 by decide)]
    cases z with
    | true => rfl
    | false =>
      rw [if_pos (show b2i false = 0 by decide), pn_gd hL hLL, pn_gd hL hLL, nI_clamp (by omega), ea, eb, s_knows hi hra h.1, s_knows hi hrb h.1, nN_nI hra, nN_nI hrb]
      simp only [Option.bind_some]
      cases (q ra).isSome <;> cases (q rb).isSome <;> rfl
theorem s_gives (hi : i < 24) (hL : i < L) (hLL : L < 2 ^ 31) (hf : fk i = nI k) (w : WI c k d (fa i) (fb i)) (h : RowC q (kn i) nu i) :
    f_X1_givesNumber L kn nu fa fb fk (nI i) = some (b2i (gv q k (fa i) (fb i)).isSome) := by
  have hk : k < 15 := by have := w.1; omega
  have ha := fun e => w.2.2.1 (ar_of k hk e).1
  have hb := fun e => w.2.2.2.1 (ar_of k hk e).2.1
  unfold f_X1_givesNumber gv
  rw [pn_gd hL hLL, nI_clamp (by omega), hf]
  by_cases k1 : k = 1
  · rw [if_pos ((ki1 hk).mpr k1), if_pos k1]; rfl
  rw [if_neg (fun e => k1 ((ki1 hk).mp e)), if_neg k1]
  by_cases k2 : k = 2
  · subst k2
    obtain ⟨ra, hra, ea⟩ := w.2.2.1 (by decide)
    rw [if_pos ((ki2 hk).mpr rfl), if_pos rfl, pn_gd hL hLL, ea, s_knows hi hra h.1, nN_nI hra]
    simp only [Option.bind_some]
    rw [gb_in (b2i_01 _)]
  rw [if_neg (fun e => k2 ((ki2 hk).mp e)), if_neg k2]
  by_cases k6 : k = 6
  · subst k6
    obtain ⟨ra, hra, ea⟩ := ha (by decide)
    obtain ⟨rb, hrb, eb⟩ := hb (by decide)
    rw [if_pos ((ki6 hk).mpr rfl), pn_gd hL hLL]
    have key : ∀ z, f_X1_givesNumber_56 L kn nu fa fb fk (nI i) (nI 6) (b2i z) = some (b2i (arK 6 && !z && (q (nN (fa i))).isSome && (q (nN (fb i))).isSome)) := s_gives56 hi hL hLL ha hb hk h
    have hz := s_isZero hi hrb h
    rw [← eb] at hz
    rw [hz]
    simp only [Option.bind_some]
    have k0 := key false
    have k1 := key true
    rw [b2i_f] at k0
    rw [b2i_t] at k1
    rw [k0, k1, if_pos (show arK 6 = true by decide), eb, ea, nN_nI hra, nN_nI hrb]
    cases e1 : q ra with
    | none => cases e2 : q rb with
      | none => rfl
      | some y => by_cases z : y = 0 <;> simp [z, arK, b2i]
    | some x => cases e2 : q rb with
      | none => rfl
      | some y => by_cases z : y = 0 <;> simp [z, arK, b2i]
  · rw [if_neg (fun e => k6 ((ki6 hk).mp e))]
    have := s_gives56 (fk := fk) hi hL hLL ha hb hk h false
    rw [b2i_f] at this
    rw [this]
    cases e : arK k with
    | false => rfl
    | true =>
      simp only [k6, false_and, if_false, if_true]
      cases q (nN (fa i)) <;> cases q (nN (fb i)) <;> rfl
theorem s_given (hi : i < 24) (hL : i < L) (hLL : L < 2 ^ 31) (hf : fk i = nI k) (w : WI c k d (fa i) (fb i)) (h : RowC q (kn i) nu i) {v : Int32} (hv : gv q k (fa i) (fb i) = some v) :
    f_X1_givenNumber L nu fa fb fk (nI i) = some v := by
  have hk : k < 15 := by have := w.1; omega
  unfold f_X1_givenNumber
  unfold gv at hv
  rw [pn_gd hL hLL, nI_clamp (by omega), hf]
  by_cases k1 : k = 1
  · rw [if_pos k1] at hv
    rw [if_pos ((ki1 hk).mpr k1), pn_gd hL hLL]; exact hv
  rw [if_neg k1] at hv
  rw [if_neg (fun e => k1 ((ki1 hk).mp e)), pn_gd hL hLL]
  by_cases k2 : k = 2
  · subst k2
    obtain ⟨ra, hra, ea⟩ := w.2.2.1 (by decide)
    rw [if_pos rfl, ea, nN_nI hra] at hv
    rw [ea, s_number hi hra, h.2 ra hra v hv]
    simp only [Option.bind_some]
    rw [if_pos ((ki2 hk).mpr rfl)]
  rw [if_neg k2] at hv
  cases e : arK k with
  | false => rw [e] at hv; cases hv
  | true =>
    rw [if_pos e] at hv
    obtain ⟨e1, e2, e5, e3, e4⟩ := ar_of k hk e
    obtain ⟨ra, hra, ea⟩ := w.2.2.1 e1
    obtain ⟨rb, hrb, eb⟩ := w.2.2.2.1 e2
    rw [ea, eb, nN_nI hra, nN_nI hrb] at hv
    cases x1 : q ra with
    | none => rw [x1] at hv; cases hv
    | some x => cases x2 : q rb with
      | none => rw [x1, x2] at hv; cases hv
      | some y =>
        rw [x1, x2] at hv
        simp only [Option.bind_some] at hv
        by_cases z : k = 6 ∧ y = 0
        · rw [if_pos z] at hv; cases hv
        · rw [if_neg z] at hv
          rw [ea, eb, s_number hi hra, s_number hi hrb, h.2 ra hra x x1, h.2 rb hrb y x2]
          simp only [Option.bind_some]
          rw [if_neg (fun e => k2 ((ki2 hk).mp e)), pn_gd hL hLL, s_compute e3 e4 x y (fun z6 y0 => z ⟨z6, y0⟩)]
          exact hv
end FO
