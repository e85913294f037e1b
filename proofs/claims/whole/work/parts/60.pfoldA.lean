/-! FOLD: both rewrite. -/
/-- what an instruction becomes, and whether it is another one -/
def foK (S : FS) (i k : Nat) (d a b : Int32) : Nat := match S i with
  | none => 0
  | some q => if wrK k = true ∧ (gv q k a b).isSome = true then 1 else if k = 10 ∧ q (nN a) = some 0 then 9 else if k = 10 ∧ (q (nN a)).isSome = true then 0 else k
def foD (S : FS) (i k : Nat) (d a b : Int32) : Int32 := match S i with
  | none => 0
  | some q => if wrK k = true ∧ (gv q k a b).isSome = true then d else if k = 10 ∧ q (nN a) = some 0 then d else if k = 10 ∧ (q (nN a)).isSome = true then 0 else d
def foA (S : FS) (i k : Nat) (d a b : Int32) : Int32 := match S i with
  | none => 0
  | some q => if wrK k = true ∧ (gv q k a b).isSome = true then (gv q k a b).getD 0 else if k = 10 ∧ q (nN a) = some 0 then 0 else if k = 10 ∧ (q (nN a)).isSome = true then 0 else a
def foB (S : FS) (i k : Nat) (d a b : Int32) : Int32 := match S i with
  | none => 0
  | some q => if wrK k = true ∧ (gv q k a b).isSome = true then 0 else if k = 10 ∧ q (nN a) = some 0 then 0 else if k = 10 ∧ (q (nN a)).isSome = true then 0 else b
def foC (S : FS) (i k : Nat) (d a b : Int32) : Bool := match S i with
  | none => !(k == 0)
  | some q => (!(k == 1) && wrK k && (gv q k a b).isSome) || (k == 10 && (q (nN a)).isSome)
def cnN (f : Nat → Bool) : Nat → Nat
  | 0 => 0
  | n + 1 => cnN f n + (if f n = true then 1 else 0)
theorem cnN_le (f : Nat → Bool) : ∀ n, cnN f n ≤ n
  | 0 => Nat.le_refl _
  | n + 1 => by
    have := cnN_le f n
    show cnN f n + (if f n = true then 1 else 0) ≤ n + 1
    split <;> omega
theorem upd_id (f : Nat → Int32) (i : Nat) : upd f i (f i) = f := by
  funext x
  by_cases h : x = i
  · rw [h, upd_s]
  · rw [upd_n _ h]
theorem upd_same {f : Nat → Int32} {i : Nat} {v : Int32} (h : v = f i) : upd f i v = f := by rw [h, upd_id]
section FR
variable {L c i k : Nat} {S : FS} {kn nu re fa fb fd fk : Nat → Int32}
theorem put01 (P : Prop) [Decidable P] : (if P then (0 : Int32) else 1) = 0 ∨ (if P then (0 : Int32) else 1) = 1 := by
  by_cases h : P
  · rw [if_pos h]; exact Or.inl rfl
  · rw [if_neg h]; exact Or.inr rfl
theorem s_rewriteOne (hc : c ≤ 24) (hic : i < c) (hL : i < L) (hLL : L < 2 ^ 31) (hf : fk i = nI k) (w : WI c k (fd i) (fa i) (fb i)) (hR : RelC c S kn nu re) :
    f_X1_rewriteOne L kn nu re fa fb fd fk (nI i) = some (b2i (foC S i k (fd i) (fa i) (fb i)), upd fa i (foA S i k (fd i) (fa i) (fb i)), upd fb i (foB S i k (fd i) (fa i) (fb i)), upd fd i (foD S i k (fd i) (fa i) (fb i)), upd fk i (nI (foK S i k (fd i) (fa i) (fb i)))) := by
  have hk : k < 15 := by have := w.1; omega
  have g : ∀ {α : Type} {x : Option α}, gd (nI i) L x = x := pn_gd hL hLL
  have hRi := hR i hic
  unfold f_X1_rewriteOne
  rw [g, pn_gd (show i < 24 by omega) (by omega), nI_clamp (by omega), hf]
  unfold foC foA foB foD foK
  cases e : S i with
  | none =>
    rw [e] at hRi
    have hRi : re i = 0 := hRi
    rw [if_pos hRi, s_put hL hLL]
    simp only [Option.bind_some]
    rw [gb_in (put01 _)]
    have hx : (if fk i = 0 ∧ fd i = 0 ∧ fa i = 0 ∧ fb i = 0 then (0 : Int32) else 1) = b2i (!(k == 0)) := by
      rw [hf]
      by_cases z : k = 0
      · subst z
        rw [if_pos ⟨by decide, w.2.2.2.2.2.1 (by decide), w.2.2.2.2.2.2.1 (by decide), w.2.2.2.2.2.2.2 (by decide)⟩]
        rfl
      · rw [if_neg (fun t => z ((ki0 hk).mp t.1))]
        have : (k == 0) = false := by simp [z]
        rw [this]
        rfl
    rw [hx]
    rfl
  | some q =>
    rw [e] at hRi
    have hRi : re i = 1 ∧ RowC q (kn i) nu i := hRi
    have hrow := hRi.2
    rw [if_neg (by rw [hRi.1]; decide), s_writesD k hk]
    simp only [Option.bind_some]
    -- nothing is given
    have rest : ¬ (wrK k = true ∧ (gv q k (fa i) (fb i)).isSome = true) → f_X1_rewriteOne_62 L kn nu re fa fb fd fk (nI i) (nI k) = some (b2i (k == 10 && (q (nN (fa i))).isSome), upd fa i (if k = 10 ∧ q (nN (fa i)) = some 0 then 0 else if k = 10 ∧ (q (nN (fa i))).isSome = true then 0 else fa i), upd fb i (if k = 10 ∧ q (nN (fa i)) = some 0 then 0 else if k = 10 ∧ (q (nN (fa i))).isSome = true then 0 else fb i), upd fd i (if k = 10 ∧ q (nN (fa i)) = some 0 then fd i else if k = 10 ∧ (q (nN (fa i))).isSome = true then 0 else fd i), upd fk i (nI (if k = 10 ∧ q (nN (fa i)) = some 0 then 9 else if k = 10 ∧ (q (nN (fa i))).isSome = true then 0 else k))) := fun _ => by
      unfold f_X1_rewriteOne_62 f_X1_rewriteOne_98
      by_cases k10 : k = 10
      · obtain ⟨ra, hra, ea⟩ := w.2.2.1 (by rw [k10]; decide)
        simp only [g]
        have hz : f_X1_isZero kn nu (nI i) (fa i) = some (b2i (decide (q ra = some 0))) := by rw [ea]; exact s_isZero (by omega) hra hrow
        have hkn : f_X1_knows kn (nI i) (fa i) = some (b2i (q ra).isSome) := by rw [ea]; exact s_knows (by omega) hra hrow.1
        rw [if_pos ((ki10 hk).mpr k10), nI_clamp (by omega), hz, hkn, if_pos ((ki10 hk).mpr k10)]
        simp only [Option.bind_some]
        have en : nN (fa i) = ra := by rw [ea, nN_nI hra]
        rw [en, s_put hL hLL, s_put hL hLL]
        simp only [Option.bind_some]
        rw [gb_in (put01 _), gb_in (put01 _)]
        have n9 : ¬ (fk i = 9 ∧ True ∧ fa i = 0 ∧ fb i = 0) := fun t => by have := t.1; rw [hf, ki9 hk] at this; omega
        have n0 : ¬ (fk i = 0 ∧ fd i = 0 ∧ fa i = 0 ∧ fb i = 0) := fun t => by have := t.1; rw [hf, ki0 hk] at this; omega
        rw [if_neg n9, if_neg n0]
        cases e2 : q ra with
        | none =>
          rw [decide_eq_false (by simp), if_pos (show b2i false = 0 by decide), Option.isSome_none, if_pos (show b2i false = 0 by decide)]
          simp only [reduceCtorEq, and_false, if_false, Bool.false_eq_true, Bool.and_false]
          rw [upd_id, upd_id, upd_id, upd_same hf.symm]
          rfl
        | some v =>
          rw [Option.isSome_some, if_neg (show ¬ b2i true = 0 by decide)]
          by_cases z : v = 0
          · have : decide (some v = some (0 : Int32)) = true := by simp [z]
            rw [this, if_neg (show ¬ b2i true = 0 by decide)]
            subst z
            simp [k10, b2i]
            rfl
          · have : decide (some v = some (0 : Int32)) = false := by simp [z]
            rw [this, if_pos (show b2i false = 0 by decide)]
            simp [k10, b2i, z]
            rfl
      · have hk10 : (k == 10) = false := by simp [k10]
        simp only [ki10 hk, k10, if_false, false_and, hk10, Bool.false_and, b2i_f]
        rw [upd_id, upd_id, upd_id, upd_same hf.symm]
    cases e1 : wrK k with
    | false =>
      rw [if_pos (show b2i false = 0 by decide), rest (by rw [e1]; simp)]
      simp
    | true =>
      rw [if_neg (show ¬ b2i true = 0 by decide), s_gives (by omega) hL hLL hf w hrow]
      simp only [Option.bind_some]
      cases e2 : gv q k (fa i) (fb i) with
      | none =>
        rw [Option.isSome_none, if_pos (show b2i false = 0 by decide), rest (by rw [e2]; simp)]
        simp
      | some v =>
        rw [Option.isSome_some, if_neg (show ¬ b2i true = 0 by decide), g, s_given (by omega) hL hLL hf w hrow e2]
        simp only [Option.bind_some]
        rw [s_put hL hLL]
        simp only [Option.bind_some]
        rw [gb_in (put01 _)]
        have hx : (if fk i = 1 ∧ True ∧ fa i = v ∧ fb i = 0 then (0 : Int32) else 1) = b2i (!(k == 1)) := by
          rw [hf]
          by_cases z : k = 1
          · subst z
            have e3 : gv q 1 (fa i) (fb i) = some (fa i) := by unfold gv; rw [if_pos rfl]
            rw [e3] at e2
            rw [if_pos ⟨by decide, trivial, Option.some.inj e2, w.2.2.2.2.2.2.2 (by decide)⟩]
            rfl
          · rw [if_neg (fun t => z ((ki1 hk).mp t.1))]
            have : (k == 1) = false := by simp [z]
            rw [this]
            rfl
        rw [hx]
        have hk10 : (k == 10) = false := by
          have : ¬ k = 10 := fun t => by rw [t] at e1; revert e1; decide
          simp [this]
        simp [hk10]
        rfl
end FR
