/-! RUN: one step, cleanly and in the class. -/
/-- an instruction that a machine can do -/
def WA (k : Nat) (d a b : Int32) : Prop := k ≤ 14 ∧ ((wrK k || k == 13) = true → ∃ r, r < 8 ∧ d = nI r) ∧ ((raK k || k == 13 || k == 14) = true → ∃ r, r < 8 ∧ a = nI r) ∧ ((rbK k || k == 14) = true → ∃ r, r < 8 ∧ b = nI r) ∧ (goK k = true → ∃ t, t ≤ 96 ∧ d = nI t)
theorem kind15 {k : Nat} (h : k ≤ 14) : k = 0 ∨ k = 1 ∨ k = 2 ∨ k = 3 ∨ k = 4 ∨ k = 5 ∨ k = 6 ∨ k = 7 ∨ k = 8 ∨ k = 9 ∨ k = 10 ∨ k = 11 ∨ k = 12 ∨ k = 13 ∨ k = 14 := by omega
/-- what ends a run before the instruction: 0 nothing -/
def flt (k : Nat) (a b : Int32) (R : Nat → Int32) (tc : Nat) : Nat := if k = 6 ∧ R (nN b) = 0 then 1 else if (k = 7 ∨ k = 8) ∧ rgI (R (nN a)) = false then 2 else if k = 11 ∧ 16 ≤ tc then 4 else 0
def fI (e : Nat) : Int32 := if e = 0 then -1 else nI e
def nxV (k : Nat) (a b : Int32) (R Sl M : Nat → Int32) (tc : Nat) : Int32 := if k = 1 then a else if k = 2 then R (nN a) else if k = 7 then M (nN (R (nN a))) else if k = 11 then (3 : Int32) * R (nN a) + nI (tc + 1) else if k = 13 then Sl (nN a) else evK k (R (nN a)) (R (nN b))
def nxR (k : Nat) (d : Int32) (R : Nat → Int32) (v : Int32) : Nat → Int32 := if (wrK k || k == 13) = true then upd R (nN d) v else R
def nxM (k : Nat) (a b : Int32) (R M : Nat → Int32) : Nat → Int32 := if k = 8 then upd M (nN (R (nN a))) (R (nN b)) else M
def nxS (k : Nat) (a b : Int32) (R Sl : Nat → Int32) : Nat → Int32 := if k = 14 then upd Sl (nN b) (R (nN a)) else Sl
def nxT (k : Nat) (a : Int32) (R T : Nat → Int32) (tc : Nat) : Nat → Int32 := if k = 11 then upd T tc (R (nN a)) else T
def nxC (k tc : Nat) : Nat := if k = 11 then tc + 1 else tc
def nxJ (k : Nat) (d a : Int32) (R : Nat → Int32) (i : Nat) : Nat := if k = 9 ∨ (k = 10 ∧ R (nN a) = 0) then nN d else i + 1
section RC
variable {L k i c : Nat} {M R Sl T fa fb fd fk : Nat → Int32} {tc : Nat} {d a b : Int32}
theorem s_fault (w : WA k d a b) (htc : tc ≤ 16) : f_X4_faultOf R (nI tc) (nI k) a b = some (fI (flt k a b R tc)) := by
  have hk : k < 15 := by have := w.1; omega
  have l16 : (nI tc < (16 : Int32)) ↔ tc < 16 := nI_ltI (b := 16) (by omega) (by decide)
  have cell : k = 7 ∨ k = 8 → f_X4_faultOf_29 R (nI tc) (nI k) a = some (fI (flt k a b R tc)) := fun k78 => by
    obtain ⟨r, r1, r2⟩ := w.2.2.1 (by rcases k78 with h | h <;> rw [h] <;> decide)
    unfold f_X4_faultOf_29 f_X4_faultOf_43 flt
    rw [r2, pn_gd r1 (by omega), nI_clamp (by omega), s_isCell, nN_nI r1]
    simp only [Option.bind_some, ki11 hk]
    have n6 : ¬ (k = 6 ∧ R (nN b) = 0) := fun t => by omega
    have n11 : ¬ (k = 11 ∧ 16 ≤ tc) := fun t => by omega
    have m11 : ¬ k = 11 := by omega
    rw [if_neg n6, if_neg n11, if_neg m11]
    cases e : rgI (R r) with
    | false => rw [if_pos (show b2i false = 0 by decide), if_pos ⟨k78, rfl⟩]; rfl
    | true => rw [if_neg (show ¬ b2i true = 0 by decide), if_neg (fun t => by cases t.2)]; rfl
  have last : ¬ (k = 7 ∨ k = 8) → ¬ (k = 6 ∧ R (nN b) = 0) → f_X4_faultOf_43 R (nI tc) (nI k) = some (fI (flt k a b R tc)) := fun k78 n6 => by
    unfold f_X4_faultOf_43 flt
    simp only [ki11 hk, l16]
    have n78 : ¬ ((k = 7 ∨ k = 8) ∧ rgI (R (nN a)) = false) := fun t => k78 t.1
    rw [if_neg n6, if_neg n78]
    by_cases k11 : k = 11
    · rw [if_pos k11]
      by_cases z : 16 ≤ tc
      · have z2 : ¬ tc < 16 := by omega
        rw [if_neg z2, if_pos (show k = 11 ∧ 16 ≤ tc from ⟨k11, z⟩)]; rfl
      · have z2 : tc < 16 := by omega
        rw [if_pos z2, if_neg (show ¬ (k = 11 ∧ 16 ≤ tc) from fun t => z t.2)]; rfl
    · rw [if_neg k11, if_neg (show ¬ (k = 11 ∧ 16 ≤ tc) from fun t => k11 t.1)]; rfl
  have e17 : ¬ (k = 6 ∧ R (nN b) = 0) → f_X4_faultOf_17 R (nI tc) (nI k) a = some (fI (flt k a b R tc)) := fun n6 => by
    unfold f_X4_faultOf_17
    simp only [ki7 hk, ki8 hk]
    by_cases k7 : k = 7
    · rw [if_pos k7]; exact cell (Or.inl k7)
    · rw [if_neg k7]
      by_cases k8 : k = 8
      · rw [if_pos k8]; exact cell (Or.inr k8)
      · rw [if_neg k8]
        exact last (fun t => by rcases t with t | t; exact k7 t; exact k8 t) n6
  unfold f_X4_faultOf
  simp only [ki6 hk]
  by_cases k6 : k = 6
  · obtain ⟨r, r1, r2⟩ := w.2.2.2.1 (by rw [k6]; decide)
    rw [if_pos k6, r2, pn_gd r1 (by omega), nI_clamp (by omega)]
    rw [r2, nN_nI r1] at e17
    by_cases z : R r = 0
    · rw [if_pos z]
      unfold flt
      rw [nN_nI r1, if_pos ⟨k6, z⟩]; rfl
    · rw [if_neg z]
      exact e17 (fun t => z t.2)
  · rw [if_neg k6]
    exact e17 (fun t => k6 t.1)
theorem rg_cell {x : Int32} (h : rgI x = true) : ∃ j, j < 8 ∧ x = nI j := rg_of h
theorem s_change (w : WA k d a b) (htc : tc ≤ 16) (hf : flt k a b R tc = 0) (hk9 : ¬ k = 9) (hk10 : ¬ k = 10) (hk12 : ¬ k = 12) :
    f_X4_change M R Sl T (nI tc) (nI k) d a b = some (nxM k a b R M, nxR k d R (nxV k a b R Sl M tc), nxS k a b R Sl, nxT k a R T tc, nI (nxC k tc)) := by
  have hk : k < 15 := by have := w.1; omega
  have gR : ∀ {x : Int32} {r : Nat}, r < 8 → x = nI r → (∀ {α : Type} {y : Option α}, gd x 8 y = y) ∧ x.toNatClampNeg = r ∧ nN x = r := fun {x r} h1 h2 => by
    rw [h2]
    exact ⟨pn_gd h1 (by omega), nI_clamp (by omega), nN_nI h1⟩
  unfold f_X4_change nxM nxR nxV nxS nxT nxC
  simp only [ki1 hk, ki2 hk, ki3 hk, ki4 hk, ki5 hk, ki6 hk, ki7 hk, ki8 hk, ki9 hk, ki10 hk, ki11 hk, ki12 hk, ki13 hk, ki14 hk]
  rcases kind15 w.1 with h | h | h | h | h | h | h | h | h | h | h | h | h | h | h
  · subst h; rfl
  · subst h
    obtain ⟨rd, d1, d2⟩ := w.2.1 (by decide)
    obtain ⟨e1, e2, e3⟩ := gR d1 d2
    simp only [Nat.reduceEqDiff, if_true, if_false, e1, e2, e3]
    rfl
  · subst h
    obtain ⟨rd, d1, d2⟩ := w.2.1 (by decide)
    obtain ⟨ra, a1, a2⟩ := w.2.2.1 (by decide)
    obtain ⟨e1, e2, e3⟩ := gR d1 d2
    obtain ⟨f1, f2, f3⟩ := gR a1 a2
    simp only [Nat.reduceEqDiff, if_true, if_false, e1, e2, e3, f1, f2, f3]
    rfl
  · subst h
    obtain ⟨rd, d1, d2⟩ := w.2.1 (by decide)
    obtain ⟨ra, a1, a2⟩ := w.2.2.1 (by decide)
    obtain ⟨rb, b1, b2⟩ := w.2.2.2.1 (by decide)
    obtain ⟨e1, e2, e3⟩ := gR d1 d2
    obtain ⟨f1, f2, f3⟩ := gR a1 a2
    obtain ⟨g1, g2, g3⟩ := gR b1 b2
    simp only [Nat.reduceEqDiff, if_true, if_false, e1, e2, e3, f1, f2, f3, g1, g2, g3, s_compute (k := 3) (by decide) (by decide) (R ra) (R rb) (fun t => by cases t), Option.bind_some]
    rfl
  · subst h
    obtain ⟨rd, d1, d2⟩ := w.2.1 (by decide)
    obtain ⟨ra, a1, a2⟩ := w.2.2.1 (by decide)
    obtain ⟨rb, b1, b2⟩ := w.2.2.2.1 (by decide)
    obtain ⟨e1, e2, e3⟩ := gR d1 d2
    obtain ⟨f1, f2, f3⟩ := gR a1 a2
    obtain ⟨g1, g2, g3⟩ := gR b1 b2
    simp only [Nat.reduceEqDiff, if_true, if_false, e1, e2, e3, f1, f2, f3, g1, g2, g3, s_compute (k := 4) (by decide) (by decide) (R ra) (R rb) (fun t => by cases t), Option.bind_some]
    rfl
  · subst h
    obtain ⟨rd, d1, d2⟩ := w.2.1 (by decide)
    obtain ⟨ra, a1, a2⟩ := w.2.2.1 (by decide)
    obtain ⟨rb, b1, b2⟩ := w.2.2.2.1 (by decide)
    obtain ⟨e1, e2, e3⟩ := gR d1 d2
    obtain ⟨f1, f2, f3⟩ := gR a1 a2
    obtain ⟨g1, g2, g3⟩ := gR b1 b2
    simp only [Nat.reduceEqDiff, if_true, if_false, e1, e2, e3, f1, f2, f3, g1, g2, g3, s_compute (k := 5) (by decide) (by decide) (R ra) (R rb) (fun t => by cases t), Option.bind_some]
    rfl
  · subst h
    obtain ⟨rd, d1, d2⟩ := w.2.1 (by decide)
    obtain ⟨ra, a1, a2⟩ := w.2.2.1 (by decide)
    obtain ⟨rb, b1, b2⟩ := w.2.2.2.1 (by decide)
    obtain ⟨e1, e2, e3⟩ := gR d1 d2
    obtain ⟨f1, f2, f3⟩ := gR a1 a2
    obtain ⟨g1, g2, g3⟩ := gR b1 b2
    have hz : ¬ R rb = 0 := fun t => by
      unfold flt at hf
      rw [g3, if_pos ⟨rfl, t⟩] at hf
      cases hf
    simp only [Nat.reduceEqDiff, if_true, if_false, e1, e2, e3, f1, f2, f3, g1, g2, g3, s_compute (k := 6) (by decide) (by decide) (R ra) (R rb) (fun _ => hz), Option.bind_some]
    rfl
  · subst h
    obtain ⟨rd, d1, d2⟩ := w.2.1 (by decide)
    obtain ⟨ra, a1, a2⟩ := w.2.2.1 (by decide)
    obtain ⟨e1, e2, e3⟩ := gR d1 d2
    obtain ⟨f1, f2, f3⟩ := gR a1 a2
    have hc : rgI (R ra) = true := by
      cases e : rgI (R ra) with
      | true => rfl
      | false =>
        unfold flt at hf
        rw [f3, if_neg (by omega), if_pos ⟨Or.inl rfl, e⟩] at hf
        cases hf
    obtain ⟨j, j1, j2⟩ := rg_cell hc
    obtain ⟨g1, g2, g3⟩ := gR j1 j2
    simp only [Nat.reduceEqDiff, if_true, if_false, e1, e2, e3, f1, f2, f3, g1, g2, g3]
    rfl
  · subst h
    obtain ⟨ra, a1, a2⟩ := w.2.2.1 (by decide)
    obtain ⟨rb, b1, b2⟩ := w.2.2.2.1 (by decide)
    obtain ⟨f1, f2, f3⟩ := gR a1 a2
    obtain ⟨e1, e2, e3⟩ := gR b1 b2
    have hc : rgI (R ra) = true := by
      cases e : rgI (R ra) with
      | true => rfl
      | false =>
        unfold flt at hf
        rw [f3, if_neg (by omega), if_pos ⟨Or.inr rfl, e⟩] at hf
        cases hf
    obtain ⟨j, j1, j2⟩ := rg_cell hc
    obtain ⟨g1, g2, g3⟩ := gR j1 j2
    simp only [Nat.reduceEqDiff, if_true, if_false, e1, e2, e3, f1, f2, f3, g1, g2, g3]
    rfl
  · exact absurd h hk9
  · exact absurd h hk10
  · subst h
    obtain ⟨rd, d1, d2⟩ := w.2.1 (by decide)
    obtain ⟨ra, a1, a2⟩ := w.2.2.1 (by decide)
    obtain ⟨e1, e2, e3⟩ := gR d1 d2
    obtain ⟨f1, f2, f3⟩ := gR a1 a2
    have ht : tc < 16 := by
      by_cases z : 16 ≤ tc
      · unfold flt at hf
        rw [if_neg (by omega), if_neg (fun t => by omega), if_pos ⟨rfl, z⟩] at hf
        cases hf
      · omega
    unfold f_X4_answerCall
    simp only [Nat.reduceEqDiff, if_true, if_false, e1, e2, e3, f1, f2, f3, pn_gd ht (show 16 < 2 ^ 31 by omega), Option.bind_some, pn_s, nI_clamp (show tc < 2 ^ 31 by omega)]
    rfl
  · exact absurd h hk12
  · subst h
    obtain ⟨rd, d1, d2⟩ := w.2.1 (by decide)
    obtain ⟨ra, a1, a2⟩ := w.2.2.1 (by decide)
    obtain ⟨e1, e2, e3⟩ := gR d1 d2
    obtain ⟨f1, f2, f3⟩ := gR a1 a2
    simp only [Nat.reduceEqDiff, if_true, if_false, e1, e2, e3, f1, f2, f3]
    rfl
  · subst h
    obtain ⟨ra, a1, a2⟩ := w.2.2.1 (by decide)
    obtain ⟨rb, b1, b2⟩ := w.2.2.2.1 (by decide)
    obtain ⟨e1, e2, e3⟩ := gR b1 b2
    obtain ⟨f1, f2, f3⟩ := gR a1 a2
    simp only [Nat.reduceEqDiff, if_true, if_false, e1, e2, e3, f1, f2, f3]
    rfl
theorem s_perform (hi : i < L) (hLL : L < 2 ^ 31) (hk0 : fk i = nI k) (w : WA k (fd i) (fa i) (fb i)) (htc : tc ≤ 16) (hf : flt k (fa i) (fb i) R tc = 0) (ret : Int32) :
    f_X4_perform L M R Sl T fa fb fd fk (nI tc) (-1) ret (nI i) = some (if k = 12 then nI i else nI (nxJ k (fd i) (fa i) R i), nxM k (fa i) (fb i) R M, nxR k (fd i) R (nxV k (fa i) (fb i) R Sl M tc), nxS k (fa i) (fb i) R Sl, nxT k (fa i) R T tc, nI (nxC k tc), if k = 12 then 0 else -1, if k = 12 then R (nN (fa i)) else ret) := by
  have hk : k < 15 := by have := w.1; omega
  have g : ∀ {α : Type} {x : Option α}, gd (nI i) L x = x := pn_gd hi hLL
  unfold f_X4_perform
  simp only [g, nI_clamp (show i < 2 ^ 31 by omega), hk0, ki9 hk, ki10 hk, ki11 hk, ki12 hk, pn_s]
  by_cases k9 : k = 9
  · subst k9
    obtain ⟨t, t1, t2⟩ := w.2.2.2.2 (by decide)
    have : nI (nxJ 9 (fd i) (fa i) R i) = fd i := by unfold nxJ; rw [if_pos (Or.inl rfl), t2, nN, nI_clamp (by omega)]
    simp only [Nat.reduceEqDiff, if_true, if_false, this]
    rfl
  by_cases k10 : k = 10
  · subst k10
    obtain ⟨t, t1, t2⟩ := w.2.2.2.2 (by decide)
    obtain ⟨ra, a1, a2⟩ := w.2.2.1 (by decide)
    have hJ : nxJ 10 (fd i) (fa i) R i = if R ra = 0 then t else i + 1 := by
      unfold nxJ
      rw [t2, a2, nN_nI a1, nN, nI_clamp (show t < 2 ^ 31 by omega)]
      by_cases z : R ra = 0
      · rw [if_pos (Or.inr ⟨rfl, z⟩), if_pos z]
      · rw [if_neg (fun h => by rcases h with h | h; cases h; exact z h.2), if_neg z]
    rw [hJ]
    simp only [Nat.reduceEqDiff, if_true, if_false]
    rw [a2, pn_gd a1 (by omega), nI_clamp (by omega)]
    by_cases z : R ra = 0
    · rw [if_pos z, if_pos z, t2]; rfl
    · rw [if_neg z, if_neg z]; rfl
  by_cases k12 : k = 12
  · subst k12
    obtain ⟨ra, a1, a2⟩ := w.2.2.1 (by decide)
    simp only [Nat.reduceEqDiff, if_true, if_false]
    rw [a2, pn_gd a1 (by omega), nI_clamp (by omega), nN_nI a1]
    rfl
  · have hch := s_change (M := M) (Sl := Sl) (T := T) w htc hf k9 k10 k12
    have hJ : nxJ k (fd i) (fa i) R i = i + 1 := by unfold nxJ; rw [if_neg (fun h => by rcases h with h | h; exact k9 h; exact k10 h.1)]
    rw [hch, hJ]
    simp only [k9, k10, k12, if_false, Option.bind_some]
    split <;> rfl
end RC
