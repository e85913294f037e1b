/-! LIVENESS: what it is, and the class's sets. -/
def rdB (k : Nat) (a b : Int32) (r : Nat) : Bool := (raK k && decide (a = nI r)) || (rbK k && decide (b = nI r))
def wrB (k : Nat) (d : Int32) (r : Nat) : Bool := wrK k && decide (d = nI r)
section LV
variable (kp : Nat → Nat) (D A B : Nat → Int32) (c : Nat)
/-- behind instruction i, by p -/
def aftB (p : Nat → Nat → Bool) (i r : Nat) : Bool := (faK (kp i) && p (i + 1) r) || (goK (kp i) && p (nN (D i)) r)
def lvF (p : Nat → Nat → Bool) (i r : Nat) : Bool := rdB (kp i) (A i) (B i) r || (!wrB (kp i) (D i) r && aftB kp D p i r)
/-- r is live before i, by a way of at most n steps -/
def lvN : Nat → Nat → Nat → Bool
  | 0, _, _ => false
  | n + 1, i, r => decide (i < c) && lvF kp D A B (lvN n) i r
def LiveP (i r : Nat) : Prop := ∃ n, lvN kp D A B c n i r = true
def LvS (p : Nat → Nat → Bool) : Prop := ∀ i r, r < 8 → (p i r = true ↔ LiveP kp D A B c i r)
end LV
section LV2
variable {kp : Nat → Nat} {D A B : Nat → Int32} {c : Nat}
theorem lvF_mono {p q : Nat → Nat → Bool} {i r : Nat} (h : ∀ j, p j r = true → q j r = true) : lvF kp D A B p i r = true → lvF kp D A B q i r = true := by
  unfold lvF aftB
  intro h1
  simp only [Bool.or_eq_true, Bool.and_eq_true] at h1 ⊢
  rcases h1 with h1 | ⟨h1, h2 | h2⟩
  · exact Or.inl h1
  · exact Or.inr ⟨h1, Or.inl ⟨h2.1, h _ h2.2⟩⟩
  · exact Or.inr ⟨h1, Or.inr ⟨h2.1, h _ h2.2⟩⟩
theorem lvN_mono {r : Nat} : ∀ (n i : Nat), lvN kp D A B c n i r = true → lvN kp D A B c (n + 1) i r = true
  | 0, _, h => by cases h
  | n + 1, i, h => by
    have h : (decide (i < c) && lvF kp D A B (lvN kp D A B c n) i r) = true := h
    show (decide (i < c) && lvF kp D A B (lvN kp D A B c (n + 1)) i r) = true
    rw [Bool.and_eq_true] at h ⊢
    exact ⟨h.1, lvF_mono (fun j => lvN_mono n j) h.2⟩
theorem lvN_le {r m : Nat} : ∀ (n i : Nat), m ≤ n → lvN kp D A B c m i r = true → lvN kp D A B c n i r = true
  | 0, i, h, e => by rw [show m = 0 by omega] at e; exact e
  | n + 1, i, h, e => by
    by_cases z : m = n + 1
    · rw [z] at e; exact e
    · exact lvN_mono n i (lvN_le n i (by omega) e)
/-- from sound bits: LiveP -/
theorem live_step {p : Nat → Nat → Bool} {i r : Nat} (hi : i < c) (hp : ∀ j, p j r = true → LiveP kp D A B c j r) (h : lvF kp D A B p i r = true) : LiveP kp D A B c i r := by
  have key : ∀ n, (∀ j, (j = i + 1 ∨ j = nN (D i)) → p j r = true → lvN kp D A B c n j r = true) → LiveP kp D A B c i r := fun n hn => by
    refine ⟨n + 1, ?_⟩
    show (decide (i < c) && lvF kp D A B (lvN kp D A B c n) i r) = true
    rw [Bool.and_eq_true]
    refine ⟨decide_eq_true hi, ?_⟩
    unfold lvF aftB at h ⊢
    simp only [Bool.or_eq_true, Bool.and_eq_true] at h ⊢
    rcases h with h1 | ⟨h1, h2 | h2⟩
    · exact Or.inl h1
    · exact Or.inr ⟨h1, Or.inl ⟨h2.1, hn _ (Or.inl rfl) h2.2⟩⟩
    · exact Or.inr ⟨h1, Or.inr ⟨h2.1, hn _ (Or.inr rfl) h2.2⟩⟩
  have ex : ∀ j, ∃ n, p j r = true → lvN kp D A B c n j r = true := fun j => by
    cases e : p j r with
    | false => exact ⟨0, fun t => by cases t⟩
    | true =>
      obtain ⟨n, hn⟩ := hp j e
      exact ⟨n, fun _ => hn⟩
  obtain ⟨n1, h1⟩ := ex (i + 1)
  obtain ⟨n2, h2⟩ := ex (nN (D i))
  refine key (n1 + n2) (fun j hj hpj => ?_)
  rcases hj with rfl | rfl
  · exact lvN_le _ _ (by omega) (h1 hpj)
  · exact lvN_le _ _ (by omega) (h2 hpj)
theorem live_fix {p : Nat → Nat → Bool} {r : Nat} (hp : ∀ i, i < c → lvF kp D A B p i r = true → p i r = true) : ∀ n i, lvN kp D A B c n i r = true → p i r = true
  | 0, _, h => by cases h
  | n + 1, i, h => by
    have h : (decide (i < c) && lvF kp D A B (lvN kp D A B c n) i r) = true := h
    rw [Bool.and_eq_true, decide_eq_true_eq] at h
    exact hp i h.1 (lvF_mono (live_fix hp n) h.2)
theorem live_out {i r : Nat} (h : c ≤ i) : ¬ LiveP kp D A B c i r := fun ⟨n, hn⟩ => by
  cases n with
  | zero => cases hn
  | succ n =>
    have hn : (decide (i < c) && lvF kp D A B (lvN kp D A B c n) i r) = true := hn
    rw [Bool.and_eq_true, decide_eq_true_eq] at hn
    omega
/-- the fixpoint law of LvS -/
theorem lvS_eq {p : Nat → Nat → Bool} (h : LvS kp D A B c p) {i r : Nat} (hi : i < c) (hr : r < 8) : p i r = lvF kp D A B p i r := by
  cases e : lvF kp D A B p i r with
  | true => exact (h i r hr).mpr (live_step hi (fun j hj => (h j r hr).mp hj) e)
  | false =>
    cases e2 : p i r with
    | false => rfl
    | true =>
      obtain ⟨n, hn⟩ := (h i r hr).mp e2
      cases n with
      | zero => cases hn
      | succ n =>
        have hn : (decide (i < c) && lvF kp D A B (lvN kp D A B c n) i r) = true := hn
        rw [Bool.and_eq_true] at hn
        have := lvF_mono (q := p) (fun j hj => (h j r hr).mpr ⟨n, hj⟩) hn.2
        rw [e] at this
        cases this
theorem lvS_out {p : Nat → Nat → Bool} (h : LvS kp D A B c p) {i r : Nat} (hi : c ≤ i) (hr : r < 8) : p i r = false := by
  cases e : p i r with
  | false => rfl
  | true => exact absurd ((h i r hr).mp e) (live_out hi)
end LV2
section LC
variable {n L c : Nat} {kp : Nat → Nat} {bf fa fb fd fk : Nat → Int32} {p : Nat → Nat → Bool}
def RelL (c : Nat) (p : Nat → Nat → Bool) (bf : Nat → Int32) : Prop := (∀ i, i < c → IsBs (bf i) (p i)) ∧ ∀ i r, c ≤ i → p i r = false
theorem s_after {i : Nat} (hc : c ≤ 24) (hi : i < c) (hL : c ≤ L) (hLL : L < 2 ^ 31) (hf : fk i = nI (kp i)) (w : WI c (kp i) (fd i) (fa i) (fb i)) (hp : RelL c p bf) :
    ∃ x, f_X3_after L bf fd fk (nI c) (nI i) = some x ∧ IsBs x (aftB kp fd p i) := by
  have hk : kp i < 15 := by have := w.1; omega
  have goal : ∀ t, (goK (kp i) = true → fd i = nI t ∧ t < 2 ^ 31) → (goK (kp i) = true → nN (fd i) = t) → ∃ x, f_X3_after L bf fd fk (nI c) (nI i) = some x ∧ IsBs x (aftB kp fd p i) := fun t ht ht2 => by
    unfold f_X3_after
    rw [s_follower (by omega) hLL hf hk (by omega), s_target (x := t) (by omega) hLL hf hk (by omega) ht]
    simp only [Option.bind_some]
    have second : ∀ (y : Int32) (q : Nat → Bool), IsBs y q → ∃ x, f_X3_after_28 L bf fd fk (nI c) (if goK (kp i) = true ∧ t < c then nI t else -1) y = some x ∧ IsBs x (fun r => q r || (goK (kp i) && p (nN (fd i)) r)) := fun y q hy => by
      unfold f_X3_after_28
      by_cases z : goK (kp i) = true ∧ t < c
      · rw [if_pos z, if_neg (fun e => by have h1 : ¬ nI t < 0 := nI_pos (by omega)
                                          rw [e] at h1; exact h1 (by decide)), pn_gd (by omega) (by omega), nI_clamp (by omega)]
        refine ⟨_, rfl, bs_cong (bs_or hy (hp.1 t z.2)) (fun r hr => ?_)⟩
        rw [ht2 z.1, z.1, Bool.true_and]
      · rw [if_neg z, if_pos rfl]
        refine ⟨_, rfl, bs_cong hy (fun r hr => ?_)⟩
        cases e : goK (kp i) with
        | false => simp
        | true =>
          rw [ht2 e, hp.2 t r (by
            by_cases y : t < c
            · exact absurd ⟨e, y⟩ z
            · omega)]
          simp
    by_cases z : faK (kp i) = true ∧ i + 1 < c
    · rw [if_pos z, if_neg (fun e => by have h1 : ¬ nI (i + 1) < 0 := nI_pos (by omega)
                                        rw [e] at h1; exact h1 (by decide)), pn_gd (by omega) (by omega), nI_clamp (by omega)]
      obtain ⟨x, h1, h2⟩ := second _ _ (hp.1 (i + 1) z.2)
      refine ⟨x, h1, bs_cong h2 (fun r hr => ?_)⟩
      unfold aftB
      rw [z.1, Bool.true_and]
    · rw [if_neg z, if_pos rfl]
      obtain ⟨x, h1, h2⟩ := second _ _ bs_0
      refine ⟨x, h1, bs_cong h2 (fun r hr => ?_)⟩
      unfold aftB
      cases e : faK (kp i) with
      | false => simp
      | true =>
        rw [hp.2 (i + 1) r (by
          by_cases y : i + 1 < c
          · exact absurd ⟨e, y⟩ z
          · omega)]
        simp
  cases e : goK (kp i) with
  | false => exact goal 0 (fun t => by rw [e] at t; cases t) (fun t => by rw [e] at t; cases t)
  | true =>
    obtain ⟨t, h1, h2⟩ := w.2.2.2.2.1 e
    exact goal t (fun _ => ⟨h2, by omega⟩) (fun _ => by rw [h2]; exact nI_clamp (by omega))
theorem s_liveBefore {i : Nat} (hc : c ≤ 24) (hi : i < c) (hL : c ≤ L) (hLL : L < 2 ^ 31) (hf : fk i = nI (kp i)) (w : WI c (kp i) (fd i) (fa i) (fb i)) (hp : RelL c p bf) :
    ∃ x, f_X3_liveBefore L bf fa fb fd fk (nI c) (nI i) = some x ∧ IsBs x (lvF kp fd fa fb p i) := by
  have hk : kp i < 15 := by have := w.1; omega
  have g : ∀ {α : Type} {x : Option α}, gd (nI i) L x = x := pn_gd (by omega) hLL
  obtain ⟨x, h1, h2⟩ := s_after hc hi hL hLL hf w hp
  have hcl : (nI i).toNatClampNeg = i := nI_clamp (by omega)
  unfold f_X3_liveBefore
  rw [g, h1, hcl, hf, s_writesD _ hk]
  simp only [Option.bind_some, g]
  have third : ∀ (y : Int32) (q : Nat → Bool), IsBs y q → ∃ x, f_X3_liveBefore_57 L bf fa fb fd fk (nI c) (nI i) (nI (kp i)) y = some x ∧ IsBs x (fun r => q r || (rbK (kp i) && decide (fb i = nI r))) := fun y q hy => by
    unfold f_X3_liveBefore_57
    rw [s_readsB _ hk, hcl]
    simp only [Option.bind_some, g]
    cases e : rbK (kp i) with
    | false => exact ⟨_, rfl, bs_cong hy (fun r hr => by simp)⟩
    | true =>
      obtain ⟨t, t1, t2⟩ := w.2.2.2.1 e
      rw [if_neg (show ¬ b2i true = 0 by decide), t2]
      refine ⟨_, rfl, bs_cong (bs_or hy (bs_1 t1)) (fun r hr => ?_)⟩
      have : decide (nI t = nI r) = (r == t) := by
        by_cases z : r = t
        · simp [z]
        · rw [decide_eq_false (fun h => z (nIj h (by omega) (by omega)).symm)]; simp [z]
      rw [this]; simp
  have second : ∀ (y : Int32) (q : Nat → Bool), IsBs y q → ∃ x, f_X3_liveBefore_37 L bf fa fb fd fk (nI c) (nI i) (nI (kp i)) y = some x ∧ IsBs x (fun r => q r || rdB (kp i) (fa i) (fb i) r) := fun y q hy => by
    unfold f_X3_liveBefore_37
    rw [s_readsA _ hk, hcl]
    simp only [Option.bind_some, g]
    cases e : raK (kp i) with
    | false =>
      rw [if_pos (show b2i false = 0 by decide)]
      obtain ⟨x, a1, a2⟩ := third y q hy
      exact ⟨x, a1, bs_cong a2 (fun r hr => by unfold rdB; rw [e]; simp)⟩
    | true =>
      obtain ⟨t, t1, t2⟩ := w.2.2.1 e
      rw [if_neg (show ¬ b2i true = 0 by decide), t2]
      obtain ⟨x, a1, a2⟩ := third _ _ (bs_or hy (bs_1 t1))
      refine ⟨x, a1, bs_cong a2 (fun r hr => ?_)⟩
      have : decide (nI t = nI r) = (r == t) := by
        by_cases z : r = t
        · simp [z]
        · rw [decide_eq_false (fun h => z (nIj h (by omega) (by omega)).symm)]; simp [z]
      unfold rdB
      rw [this, e, Bool.true_and, Bool.or_assoc]
  cases e : wrK (kp i) with
  | false =>
    rw [if_pos (show b2i false = 0 by decide)]
    obtain ⟨y, a1, a2⟩ := second x _ h2
    refine ⟨y, a1, bs_cong a2 (fun r hr => ?_)⟩
    unfold lvF wrB
    rw [e, Bool.false_and, Bool.not_false, Bool.true_and, Bool.or_comm]
  | true =>
    obtain ⟨t, t1, t2⟩ := w.2.1 e
    rw [if_neg (show ¬ b2i true = 0 by decide), t2]
    obtain ⟨y, a1, a2⟩ := second _ _ (bs_andn h2 (bs_1 t1))
    refine ⟨y, a1, bs_cong a2 (fun r hr => ?_)⟩
    have : decide (fd i = nI r) = (r == t) := by
      rw [t2]
      by_cases z : r = t
      · simp [z]
      · rw [decide_eq_false (fun h => z (nIj h (by omega) (by omega)).symm)]; simp [z]
    unfold lvF wrB
    rw [this, e, Bool.true_and, Bool.or_comm, Bool.and_comm (x := !_)]
end LC
