/-! DROP keeps what is sure of a program. -/
section AD
variable {c : Nat} {kp : Nat → Nat} {D A B : Nat → Int32}
theorem Ann_cong {D' A' B' : Nat → Int32} (h : ∀ i, i < c → D' i = D i ∧ A' i = A i ∧ B' i = B i) (hA : Ann c kp D A B) : Ann c kp D' A' B' := by
  obtain ⟨S, s1, s2, s3⟩ := hA
  refine ⟨S, s1, s2, fun i hi => ?_⟩
  obtain ⟨h1, h2, h3⟩ := h i hi
  rw [h1, h2, h3]
  exact s3 i hi
theorem En_cong {D' : Nat → Int32} (h : ∀ i, i < c → D' i = D i) (hE : En c kp D) : En c kp D' := by
  obtain ⟨l, l1, l2, l3, l4, l5⟩ := hE
  exact ⟨l, l1, l2, l3, l4, fun i hi hg => by rw [h i hi]; exact l5 i hi hg⟩
/-- what is known of the live registers alone -/
def lvR (p : Nat → Nat → Bool) (i : Nat) (q : RQ) : RQ := fun r => if r < 8 ∧ p i r = true then q r else none
def lvSt (p : Nat → Nat → Bool) (S : FS) : FS := fun i => (S i).map (lvR p i)
theorem lvR_wk (p : Nat → Nat → Bool) (i : Nat) (q : RQ) : wk (lvR p i q) q := fun r v h => by
  unfold lvR at h
  by_cases z : r < 8 ∧ p i r = true
  · rw [if_pos z] at h; exact h
  · rw [if_neg z] at h; cases h
theorem lvR_in {p : Nat → Nat → Bool} {i r : Nat} {q : RQ} (h8 : r < 8) (h : p i r = true) : lvR p i q r = q r := by unfold lvR; rw [if_pos ⟨h8, h⟩]
theorem lvR_some {p : Nat → Nat → Bool} {i r : Nat} {q : RQ} {v : Int32} (h : lvR p i q r = some v) : r < 8 ∧ p i r = true ∧ q r = some v := by
  unfold lvR at h
  by_cases z : r < 8 ∧ p i r = true
  · rw [if_pos z] at h; exact ⟨z.1, z.2, h⟩
  · rw [if_neg z] at h; cases h
theorem drop_keeps {p : Nat → Nat → Bool} (hc : c ≤ 24) (w : WP c kp D A B) (hp : LvS kp D A B c p) (hA : Ann c kp D A B) (hE : En c kp D) : Ann c (dK' kp D p) (dX' kp D p D) (dX' kp D p A) (dX' kp D p B) ∧ En c (dK' kp D p) (dX' kp D p D) := by
  constructor
  · obtain ⟨S, ⟨p0, s1, s2⟩, s3, s4⟩ := hA
    refine ⟨lvSt p S, ⟨lvR p 0 p0, by unfold lvSt; rw [s1]; rfl, wk_tr (lvR_wk p 0 p0) s2⟩, by unfold lvSt; rw [s3]; rfl, fun i hi => ?_⟩
    have wi := w i hi
    have hk : kp i < 15 := by have := wi.1; omega
    intro q' hq' hn
    unfold lvSt at hq'
    cases e : S i with
    | none => rw [e] at hq'; cases hq'
    | some q =>
      rw [e] at hq'
      have hq' : lvR p i q = q' := Option.some.inj hq'
      -- a register that is read is live
      have ra : raK (kp i) = true → lvR p i q (nN (A i)) = q (nN (A i)) := fun h => by
        obtain ⟨r, r1, r2⟩ := wi.2.2.1 h
        rw [r2, nN_nI r1]
        refine lvR_in r1 ?_
        rw [lvS_eq hp hi r1]
        unfold lvF rdB
        rw [h, r2, decide_eq_true rfl]; rfl
      have rb : rbK (kp i) = true → lvR p i q (nN (B i)) = q (nN (B i)) := fun h => by
        obtain ⟨r, r1, r2⟩ := wi.2.2.2.1 h
        rw [r2, nN_nI r1]
        refine lvR_in r1 ?_
        rw [lvS_eq hp hi r1]
        unfold lvF rdB
        rw [h, r2, decide_eq_true rfl]; simp
      -- one that is live behind and not written is live before
      have lv : ∀ r t, r < 8 → p t r = true → ((faK (kp i) = true ∧ t = i + 1) ∨ (goK (kp i) = true ∧ t = nN (D i))) → ¬ (wrK (kp i) = true ∧ r = nN (D i)) → p i r = true := fun r t h8 ht hs hw => by
        rw [lvS_eq hp hi h8]
        unfold lvF
        have h1 : wrB (kp i) (D i) r = false := by
          unfold wrB
          cases ew : wrK (kp i) with
          | false => rfl
          | true =>
            obtain ⟨rd, d1, d2⟩ := wi.2.1 ew
            rw [decide_eq_false (fun z => hw ⟨ew, by rw [z]; exact (nN_nI h8).symm⟩)]; rfl
        have h2 : aftB kp D p i r = true := by
          unfold aftB
          rcases hs with ⟨a1, a2⟩ | ⟨a1, a2⟩
          · rw [a2] at ht; rw [a1, ht]; rfl
          · rw [a2] at ht; rw [a1, ht]; simp
        rw [h1, h2]; simp
      cases ed : dpB kp D p i with
      | true =>
        have hon : onK (kp i) = true := by unfold dpB at ed; rw [Bool.and_eq_true] at ed; exact ed.1
        have hna : aftB kp D p i (nN (D i)) = false := by
          unfold dpB at ed
          rw [Bool.and_eq_true] at ed
          cases e2 : aftB kp D p i (nN (D i)) with
          | false => rfl
          | true => rw [e2] at ed; cases ed.2
        have hw := on_wr _ hk hon
        obtain ⟨f1, f2, f3⟩ := wr_fa _ hk hw
        have n6 : ¬ kp i = 6 := fun t => by rw [t] at hon; revert hon; decide
        have k0 : dK' kp D p i = 0 := if_pos ed
        rw [k0]
        refine ⟨fun _ => ?_, fun hx => absurd hx.1 (by decide)⟩
        obtain ⟨x, x1, x2⟩ := (s4 i hi q e (fun t => n6 t.1)).1 ⟨f1, fun t => f3 t.1⟩
        refine ⟨lvR p (i + 1) x, by unfold lvSt; rw [x1]; rfl, fun r v hv => ?_⟩
        obtain ⟨v1, v2, v3⟩ := lvR_some hv
        rw [pst_nw (by decide), ← hq']
        have hne : ¬ r = nN (D i) := fun z => by
          unfold aftB at hna
          rw [f1, ← z, v2] at hna
          cases hna
        rw [lvR_in v1 (lv r (i + 1) v1 v2 (Or.inl ⟨f1, rfl⟩) (fun t => hne t.2))]
        have := x2 r v v3
        unfold pst at this
        rw [if_pos hw] at this
        have this : (if r = nN (D i) then gv q (kp i) (A i) (B i) else q r) = some v := this
        rw [if_neg hne] at this
        exact this
      | false =>
        have k0 : dK' kp D p i = kp i := if_neg (by rw [ed]; decide)
        have d0 : dX' kp D p D i = D i := if_neg (by rw [ed]; decide)
        have a0 : dX' kp D p A i = A i := if_neg (by rw [ed]; decide)
        have b0 : dX' kp D p B i = B i := if_neg (by rw [ed]; decide)
        rw [k0, b0] at hn
        rw [k0, d0, a0, b0]
        have hns : ¬ (kp i = 6 ∧ q (nN (B i)) = some 0) := fun t => hn ⟨t.1, by rw [← hq', rb (by rw [t.1]; decide)]; exact t.2⟩
        have hcl := s4 i hi q e hns
        -- what the flow brings
        have fl : ∀ t x, wk x (pst q (kp i) (D i) (A i) (B i)) → ((faK (kp i) = true ∧ t = i + 1) ∨ (goK (kp i) = true ∧ t = nN (D i))) → wk (lvR p t x) (pst q' (kp i) (D i) (A i) (B i)) := fun t x hx hs r v hv => by
          obtain ⟨v1, v2, v3⟩ := lvR_some hv
          have h1 := hx r v v3
          rw [← hq']
          unfold pst at h1 ⊢
          by_cases ew : wrK (kp i) = true
          · rw [if_pos ew] at h1 ⊢
            have h1 : (if r = nN (D i) then gv q (kp i) (A i) (B i) else q r) = some v := h1
            show (if r = nN (D i) then gv (lvR p i q) (kp i) (A i) (B i) else lvR p i q r) = some v
            by_cases z : r = nN (D i)
            · rw [if_pos z] at h1 ⊢
              unfold gv at h1 ⊢
              by_cases k1 : kp i = 1
              · rw [if_pos k1] at h1 ⊢; exact h1
              rw [if_neg k1] at h1 ⊢
              by_cases k2 : kp i = 2
              · rw [if_pos k2] at h1 ⊢; rw [ra (by rw [k2]; decide)]; exact h1
              rw [if_neg k2] at h1 ⊢
              by_cases ka : arK (kp i) = true
              · have := ar_of _ hk ka
                rw [if_pos ka] at h1 ⊢
                rw [ra this.1, rb this.2.1]
                exact h1
              · rw [if_neg ka] at h1; cases h1
            · rw [if_neg z] at h1 ⊢
              rw [lvR_in v1 (lv r t v1 v2 hs (fun y => z y.2))]
              exact h1
          · rw [if_neg ew] at h1 ⊢
            rw [lvR_in v1 (lv r t v1 v2 hs (fun y => ew y.1))]
            exact h1
        constructor
        · intro hf
          obtain ⟨x, x1, x2⟩ := hcl.1 ⟨hf.1, fun t => hf.2 ⟨t.1, by rw [← hq', ra (by rw [t.1]; decide)]; exact t.2⟩⟩
          exact ⟨lvR p (i + 1) x, by unfold lvSt; rw [x1]; rfl, fl (i + 1) x x2 (Or.inl ⟨hf.1, rfl⟩)⟩
        · intro hf
          obtain ⟨x, x1, x2⟩ := hcl.2 ⟨hf.1, fun k10 hs => by
            have := ra (by rw [k10]; decide)
            have h3 := hf.2 k10 (by rw [← hq', this]; exact hs)
            rw [← hq', this] at h3
            exact h3⟩
          exact ⟨lvR p (nN (D i)) x, by unfold lvSt; rw [x1]; rfl, fl (nN (D i)) x x2 (Or.inr ⟨hf.1, rfl⟩)⟩
  · obtain ⟨l, l1, l2, l3, l4, l5⟩ := hE
    have keep : ∀ i, onK (kp i) = false → dpB kp D p i = false := fun i h => by unfold dpB; rw [h]; rfl
    have kl : dK' kp D p l = kp l := if_neg (by rw [keep l l3]; decide)
    refine ⟨l, l1, by rw [kl]; exact l2, by rw [kl]; exact l3, fun i h1 h2 => ?_, fun i hi hg => ?_⟩
    · show (if dpB kp D p i = true then 0 else kp i) = 0
      rw [keep i (by rw [l4 i h1 h2]; decide), l4 i h1 h2]; rfl
    · cases ed : dpB kp D p i with
      | true =>
        have k0 : dK' kp D p i = 0 := if_pos ed
        rw [k0] at hg
        exact absurd hg (by decide)
      | false =>
        have k0 : dK' kp D p i = kp i := if_neg (by rw [ed]; decide)
        have d0 : dX' kp D p D i = D i := if_neg (by rw [ed]; decide)
        rw [k0] at hg
        rw [d0]
        exact l5 i hi hg
/-- for drop_both -/
theorem drop_Q (hc : c ≤ 24) : ∀ kp fd fa fb p (D0 A0 B0 : Nat → Int32), WP c kp fd fa fb → LvS kp fd fa fb c p → (Ann c kp fd fa fb ∧ En c kp fd) → Ann c (dK' kp fd p) (va_cpy (dX' kp fd p fd) D0 0 0 c) (va_cpy (dX' kp fd p fa) A0 0 0 c) (va_cpy (dX' kp fd p fb) B0 0 0 c) ∧ En c (dK' kp fd p) (va_cpy (dX' kp fd p fd) D0 0 0 c) := fun kp fd fa fb p D0 A0 B0 w hp h => by
  obtain ⟨a1, a2⟩ := drop_keeps hc w hp h.1 h.2
  exact ⟨Ann_cong (fun i hi => ⟨cpy_lo _ _ hi, cpy_lo _ _ hi, cpy_lo _ _ hi⟩) a1, En_cong (fun i hi => cpy_lo _ _ hi) a2⟩
end AD
