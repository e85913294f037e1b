/-! SHARE keeps what is sure of a program. -/
section ASH
variable {c : Nat} {kp : Nat → Nat} {D A B : Nat → Int32}
/-- the number of a key's value -/
def NV (N : Nat → Option Int32) (k : Nat) (x y : Int32) : Option Int32 := if k = 1 then some x else (N (nN x)).bind (fun u => (N (nN y)).bind (fun w => some (evK k u w)))
def Cons (s : HV) (q : RQ) (N : Nat → Option Int32) : Prop := (∀ r, r < 8 → q r = N (s.1 r)) ∧ ∀ k x y v, s.2.2 k x y = some v → N v = NV N k x y ∧ (k = 1 ∨ ((k = 3 ∨ k = 4 ∨ k = 5) ∧ ∃ p p', p < s.2.1 ∧ p' < s.2.1 ∧ x = nI p ∧ y = nI p'))
theorem ev_comm {k : Nat} (h : k = 3 ∨ k = 5) (u w : Int32) : evK k u w = evK k w u := by
  unfold evK
  rcases h with rfl | rfl
  · simp only [if_true]; exact Int32.add_comm u w
  · simp only [Nat.reduceEqDiff, if_false, if_true]; exact Int32.mul_comm u w
theorem NV_gv {s : HV} {q : RQ} {N : Nat → Option Int32} {k : Nat} {a b a' b' : Int32} (hq : ∀ r, r < 8 → q r = N (s.1 r)) (hk : k = 3 ∨ k = 4 ∨ k = 5) (ha : ∃ r x, r < 8 ∧ a = nI r ∧ x < 8 ∧ a' = nI x ∧ s.1 x = s.1 r) (hb : ∃ r x, r < 8 ∧ b = nI r ∧ x < 8 ∧ b' = nI x ∧ s.1 x = s.1 r) (hnv : ∀ r, r < 8 → s.1 r < 2 ^ 31) : gv q k a b = NV N k (gx s.1 k a' b') (gy s.1 k a' b') := by
  obtain ⟨ra, xa, a1, a2, a3, a4, a5⟩ := ha
  obtain ⟨rb, xb, b1, b2, b3, b4, b5⟩ := hb
  have k1 : ¬ k = 1 := by omega
  have k2 : ¬ k = 2 := by omega
  have k6 : ¬ k = 6 := by omega
  have har : arK k = true := by rcases hk with h | h | h <;> rw [h] <;> decide
  unfold gv NV gx gy
  rw [if_neg k1, if_neg k2, if_pos har, if_neg k1, if_neg k1, if_neg k1, a2, b2, a4, b4, nN_nI a1, nN_nI b1, nN_nI a3, nN_nI b3, hq ra a1, hq rb b1, a5, b5]
  have hc : ∀ m, m < 2 ^ 31 → nN (nI m) = m := fun m hm => nI_clamp hm
  have va := hnv ra a1
  have vb := hnv rb b1
  have e6 : ∀ x y : Int32, (if k = 6 ∧ y = 0 then none else some (evK k x y)) = some (evK k x y) := fun x y => by rw [if_neg (fun t => k6 t.1)]
  simp only [e6]
  by_cases k4 : k = 4
  · rw [if_pos k4, if_pos k4, hc _ va, hc _ vb]
  · rw [if_neg k4, if_neg k4, hc _ (by omega), hc _ (by omega)]
    by_cases z : s.1 ra ≤ s.1 rb
    · rw [Nat.min_eq_left z, Nat.max_eq_right z]
    · rw [Nat.min_eq_right (by omega), Nat.max_eq_left (by omega)]
      cases N (s.1 ra) with
      | none => cases N (s.1 rb) <;> rfl
      | some u => cases N (s.1 rb) with
        | none => rfl
        | some w =>
          simp only [Option.bind_some]
          rw [ev_comm (by omega) u w]
/-- one instruction: the values stay right; what had the value before has its number -/
theorem cons_step {s : HV} {q : RQ} {N : Nat → Option Int32} {k : Nat} {d a b : Int32} (w : WI c k d a b) (ok : HOK s) (hnv : s.2.1 < 1000) (h : Cons s q N) : ∃ N', Cons (shN s k d a b) (pst q k d a b) N' ∧ (wrK k = true → sg s k a b < s.2.1 → N (sg s k a b) = gv q k a b) ∧ (wrK k = true → ¬ sg s k a b < s.2.1 → sg s k a b = s.2.1) := by
  have hk : k < 15 := by have := w.1; omega
  cases ew : wrK k with
  | false =>
    have e1 : shN s k d a b = s := by unfold shN; rw [if_neg (by rw [ew]; decide)]
    rw [e1, pst_nw ew]
    exact ⟨N, h, (fun t => by cases t), (fun t => by cases t)⟩
  | true =>
    obtain ⟨rd, d1, d2⟩ := w.2.1 ew
    have eN : shN s k d a b = (fun r => if r = nN d then sg s k a b else s.1 r, gN s k (shA1 s.1 k a) (shB1 s.1 k b), gT s k (shA1 s.1 k a) (shB1 s.1 k b)) := by unfold shN; rw [if_pos ew]
    have hreg : ∀ r, r < 8 → s.1 r < 2 ^ 31 := fun r hr => by have := ok.1 r hr; omega
    have eP : ∀ r, pst q k d a b r = if r = nN d then gv q k a b else q r := fun r => by unfold pst; rw [if_pos ew]
    rw [eN]
    by_cases htb : tbK k = true
    · have hk4 := tb_of.mp htb
      -- the key's number is what the instruction gives
      have hNV : gv q k a b = NV N k (gx s.1 k (shA1 s.1 k a) (shB1 s.1 k b)) (gy s.1 k (shA1 s.1 k a) (shB1 s.1 k b)) := by
        by_cases k1 : k = 1
        · subst k1
          have ea : shA1 s.1 1 a = a := by unfold shA1; rw [if_neg (by decide)]
          unfold gv NV gx
          rw [if_pos rfl, if_pos rfl, if_pos rfl, ea]
        · have har : arK k = true := by rcases hk4 with h | h | h | h; omega; all_goals (rw [h]; decide)
          obtain ⟨u1, u2, u3, _⟩ := ar_of k hk har
          obtain ⟨ra, a1, a2⟩ := w.2.2.1 u1
          obtain ⟨rb, b1, b2⟩ := w.2.2.2.1 u2
          obtain ⟨xa, x1, x2, x3⟩ := shA1_reg (hv := s.1) u1 (w.2.2.1 u1)
          obtain ⟨xb, y1, y2, y3⟩ := shB1_reg (hv := s.1) u2 (w.2.2.2.1 u2)
          rw [a2, nN_nI a1] at x3
          rw [b2, nN_nI b1] at y3
          exact NV_gv h.1 (by omega) ⟨ra, xa, a1, a2, x1, x2, x3⟩ ⟨rb, xb, b1, b2, y1, y2, y3⟩ hreg
      have hkey : k = 1 ∨ ((k = 3 ∨ k = 4 ∨ k = 5) ∧ ∃ p p', p < s.2.1 ∧ p' < s.2.1 ∧ gx s.1 k (shA1 s.1 k a) (shB1 s.1 k b) = nI p ∧ gy s.1 k (shA1 s.1 k a) (shB1 s.1 k b) = nI p') := by
        by_cases k1 : k = 1
        · exact Or.inl k1
        · have har : arK k = true := by rcases hk4 with h | h | h | h; omega; all_goals (rw [h]; decide)
          obtain ⟨u1, u2, u3, _⟩ := ar_of k hk har
          obtain ⟨xa, x1, x2, x3⟩ := shA1_reg (hv := s.1) u1 (w.2.2.1 u1)
          obtain ⟨xb, y1, y2, y3⟩ := shB1_reg (hv := s.1) u2 (w.2.2.2.1 u2)
          have v1 := ok.1 xa x1
          have v2 := ok.1 xb y1
          refine Or.inr ⟨by omega, ?_⟩
          unfold gx gy
          rw [if_neg k1, if_neg k1, x2, y2, nN_nI x1, nN_nI y1]
          refine ⟨_, _, ?_, ?_, rfl, rfl⟩
          · split
            · exact v1
            · omega
          · split
            · exact v2
            · omega
      generalize hx : gx s.1 k (shA1 s.1 k a) (shB1 s.1 k b) = x at hNV hkey
      generalize hy : gy s.1 k (shA1 s.1 k a) (shB1 s.1 k b) = y at hNV hkey
      have hsg : sg s k a b = tvV s.2.2 s.2.1 k x y := by unfold sg gV; rw [if_pos htb, hx, hy]
      have hgN : gN s k (shA1 s.1 k a) (shB1 s.1 k b) = tvN s.2.2 s.2.1 k x y := by unfold gN; rw [if_pos htb, hx, hy]
      have hgT : gT s k (shA1 s.1 k a) (shB1 s.1 k b) = tvT s.2.2 s.2.1 k x y := by unfold gT; rw [if_pos htb, hx, hy]
      rw [hsg, hgN, hgT]
      cases eT : s.2.2 k x y with
      | some v =>
        have e1 : tvV s.2.2 s.2.1 k x y = v := by unfold tvV; rw [eT]; rfl
        have e2 : tvN s.2.2 s.2.1 k x y = s.2.1 := by unfold tvN; rw [eT]
        have e3 : tvT s.2.2 s.2.1 k x y = s.2.2 := by unfold tvT; rw [eT]
        have hN := (h.2 k x y v eT).1
        have hv := ok.2 k x y v eT
        rw [e1, e2, e3]
        refine ⟨N, ⟨fun r hr => ?_, h.2⟩, fun _ _ => by rw [hN, hNV], fun _ hn => absurd hv hn⟩
        show pst q k d a b r = N (if r = nN d then v else s.1 r)
        rw [eP]
        by_cases z : r = nN d
        · rw [if_pos z, if_pos z, hN, hNV]
        · rw [if_neg z, if_neg z]; exact h.1 r hr
      | none =>
        have e1 : tvV s.2.2 s.2.1 k x y = s.2.1 := by unfold tvV; rw [eT]; rfl
        have e2 : tvN s.2.2 s.2.1 k x y = s.2.1 + 1 := by unfold tvN; rw [eT]
        have e3 : tvT s.2.2 s.2.1 k x y = fun k' x' y' => if k' = k ∧ x' = x ∧ y' = y then some s.2.1 else s.2.2 k' x' y' := by unfold tvT; rw [eT]
        rw [e1, e2, e3]
        -- a key's number does not see the new value
        have hst : ∀ k' x' y', (k' = 1 ∨ ((k' = 3 ∨ k' = 4 ∨ k' = 5) ∧ ∃ p p', p < s.2.1 ∧ p' < s.2.1 ∧ x' = nI p ∧ y' = nI p')) → NV (fun v => if v = s.2.1 then gv q k a b else N v) k' x' y' = NV N k' x' y' := fun k' x' y' hkk => by
          unfold NV
          by_cases k1 : k' = 1
          · rw [if_pos k1, if_pos k1]
          · rcases hkk with hkk | ⟨_, p, p', q1, q2, q3, q4⟩
            · exact absurd hkk k1
            · rw [if_neg k1, if_neg k1, q3, q4, nN, nN, nI_clamp (by omega), nI_clamp (by omega)]
              simp only [if_neg (show ¬ p = s.2.1 by omega), if_neg (show ¬ p' = s.2.1 by omega)]
        refine ⟨fun v => if v = s.2.1 then gv q k a b else N v, ⟨fun r hr => ?_, fun k' x' y' v hv => ?_⟩, fun _ hl => absurd hl (Nat.lt_irrefl _), fun _ _ => rfl⟩
        · show pst q k d a b r = if (if r = nN d then s.2.1 else s.1 r) = s.2.1 then gv q k a b else N (if r = nN d then s.2.1 else s.1 r)
          rw [eP]
          by_cases z : r = nN d
          · rw [if_pos z, if_pos z, if_pos rfl]
          · have := ok.1 r hr
            rw [if_neg z, if_neg z, if_neg (by omega)]; exact h.1 r hr
        · have hv : (if k' = k ∧ x' = x ∧ y' = y then some s.2.1 else s.2.2 k' x' y') = some v := hv
          by_cases z : k' = k ∧ x' = x ∧ y' = y
          · rw [if_pos z] at hv
            have hv := (Option.some.inj hv).symm
            obtain ⟨z1, z2, z3⟩ := z
            rw [z1, z2, z3, hst k x y hkey]
            refine ⟨?_, ?_⟩
            · show (if v = s.2.1 then gv q k a b else N v) = NV N k x y
              rw [if_pos hv]; exact hNV
            · rcases hkey with h1 | ⟨h1, p, p', q1, q2, q3⟩
              · exact Or.inl h1
              · exact Or.inr ⟨h1, p, p', by show p < s.2.1 + 1; omega, by show p' < s.2.1 + 1; omega, q3⟩
          · rw [if_neg z] at hv
            obtain ⟨h1, h2⟩ := h.2 k' x' y' v hv
            have hlt := ok.2 k' x' y' v hv
            rw [hst k' x' y' h2]
            refine ⟨?_, ?_⟩
            · show (if v = s.2.1 then gv q k a b else N v) = NV N k' x' y'
              rw [if_neg (by omega)]; exact h1
            · rcases h2 with h1 | ⟨h1, p, p', q1, q2, q3⟩
              · exact Or.inl h1
              · exact Or.inr ⟨h1, p, p', by show p < s.2.1 + 1; omega, by show p' < s.2.1 + 1; omega, q3⟩
    · have hgT : gT s k (shA1 s.1 k a) (shB1 s.1 k b) = s.2.2 := by unfold gT; rw [if_neg htb]
      rw [hgT]
      by_cases k2 : k = 2
      · have hgN : gN s k (shA1 s.1 k a) (shB1 s.1 k b) = s.2.1 := by unfold gN; rw [if_neg htb, if_pos k2]
        have hra : raK k = true := by rw [k2]; decide
        obtain ⟨ra, a1, a2⟩ := w.2.2.1 hra
        obtain ⟨xa, x1, x2, x3⟩ := shA1_reg (hv := s.1) hra (w.2.2.1 hra)
        have hsg : sg s k a b = s.1 xa := by unfold sg gV; rw [if_neg htb, if_pos k2, x2, nN_nI x1]
        have hgv : gv q k a b = N (s.1 xa) := by
          unfold gv
          rw [if_neg (by omega), if_pos k2, x3, a2, nN_nI a1]
          exact h.1 ra a1
        rw [hgN, hsg]
        refine ⟨N, ⟨fun r hr => ?_, h.2⟩, fun _ _ => hgv.symm, fun _ hn => absurd (ok.1 xa x1) hn⟩
        show pst q k d a b r = N (if r = nN d then s.1 xa else s.1 r)
        rw [eP]
        by_cases z : r = nN d
        · rw [if_pos z, if_pos z, hgv]
        · rw [if_neg z, if_neg z]; exact h.1 r hr
      · have hgN : gN s k (shA1 s.1 k a) (shB1 s.1 k b) = s.2.1 + 1 := by unfold gN; rw [if_neg htb, if_neg k2]
        have hsg : sg s k a b = s.2.1 := by unfold sg gV; rw [if_neg htb, if_neg k2]
        rw [hgN, hsg]
        have hst : ∀ k' x' y', (k' = 1 ∨ ((k' = 3 ∨ k' = 4 ∨ k' = 5) ∧ ∃ p p', p < s.2.1 ∧ p' < s.2.1 ∧ x' = nI p ∧ y' = nI p')) → NV (fun v => if v = s.2.1 then gv q k a b else N v) k' x' y' = NV N k' x' y' := fun k' x' y' hkk => by
          unfold NV
          by_cases k1 : k' = 1
          · rw [if_pos k1, if_pos k1]
          · rcases hkk with hkk | ⟨_, p, p', q1, q2, q3, q4⟩
            · exact absurd hkk k1
            · rw [if_neg k1, if_neg k1, q3, q4, nN, nN, nI_clamp (by omega), nI_clamp (by omega)]
              simp only [if_neg (show ¬ p = s.2.1 by omega), if_neg (show ¬ p' = s.2.1 by omega)]
        refine ⟨fun v => if v = s.2.1 then gv q k a b else N v, ⟨fun r hr => ?_, fun k' x' y' v hv => ?_⟩, fun _ hl => absurd hl (Nat.lt_irrefl _), fun _ _ => rfl⟩
        · show pst q k d a b r = if (if r = nN d then s.2.1 else s.1 r) = s.2.1 then gv q k a b else N (if r = nN d then s.2.1 else s.1 r)
          rw [eP]
          by_cases z : r = nN d
          · rw [if_pos z, if_pos z, if_pos rfl]
          · have := ok.1 r hr
            rw [if_neg z, if_neg z, if_neg (by omega)]; exact h.1 r hr
        · obtain ⟨h1, h2⟩ := h.2 k' x' y' v hv
          have hlt := ok.2 k' x' y' v hv
          rw [hst k' x' y' h2]
          refine ⟨?_, ?_⟩
          · show (if v = s.2.1 then gv q k a b else N v) = NV N k' x' y'
            rw [if_neg (by omega)]; exact h1
          · rcases h2 with h1 | ⟨h1, p, p', q1, q2, q3⟩
            · exact Or.inl h1
            · exact Or.inr ⟨h1, p, p', by show p < s.2.1 + 1; omega, by show p' < s.2.1 + 1; omega, q3⟩
end ASH
