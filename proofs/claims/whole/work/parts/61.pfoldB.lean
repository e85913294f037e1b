section FR2
variable {n L c i k : Nat} {S : FS} {kn nu re fa fb fd fk fs : Nat → Int32}
theorem m_folded (hc : c ≤ 24) (hic : i < c) (hf : fk (100 + i) = nI k) (w : WI c k (fd (100 + i)) (fa (100 + i)) (fb (100 + i))) (hR : RelM c S kn nu re) :
    f_X9_folded fa fb fd fk kn nu re (nI i) = some (b2i (foC S i k (fd (100 + i)) (fa (100 + i)) (fb (100 + i))), upd fa (100 + i) (foA S i k (fd (100 + i)) (fa (100 + i)) (fb (100 + i))), upd fb (100 + i) (foB S i k (fd (100 + i)) (fa (100 + i)) (fb (100 + i))), upd fd (100 + i) (foD S i k (fd (100 + i)) (fa (100 + i)) (fb (100 + i))), upd fk (100 + i) (nI (foK S i k (fd (100 + i)) (fa (100 + i)) (fb (100 + i))))) := by
  have hk : k < 15 := by have := w.1; omega
  have g : ∀ {α : Type} {x : Option α}, gd (nI (100 + i)) 400 x = x := pn_gd (by omega) (by omega)
  have hRi := hR i (by omega)
  unfold f_X9_folded
  rw [pn_h]
  simp only [g]
  rw [pn_gd (show i < 26 by omega) (by omega), nI_clamp (show i < 2 ^ 31 by omega), nI_clamp (show 100 + i < 2 ^ 31 by omega), hf]
  unfold foC foA foB foD foK
  cases e : S i with
  | none =>
    rw [e] at hRi
    have hRi : re i = 0 := hRi
    rw [if_pos hRi, m_put (by omega)]
    simp only [Option.bind_some, ki0 hk]
    by_cases z : k = 0
    · subst z; rfl
    · rw [if_neg z]
      have : (k == 0) = false := by simp [z]
      rw [this]
      rfl
  | some q =>
    rw [e] at hRi
    have hRi : re i = 1 ∧ RowM q kn nu i := hRi
    have hrow := hRi.2
    rw [if_neg (by rw [hRi.1]; decide)]
    by_cases k10 : k = 10
    · subst k10
      obtain ⟨ra, hra, ea⟩ := w.2.2.1 (by decide)
      have hwr : wrK 10 = false := by decide
      have en : nN (fa (100 + i)) = ra := by rw [ea, nN_nI hra]
      have hgv : gv q 10 (fa (100 + i)) (fb (100 + i)) = none := by
        unfold gv
        rw [if_neg (by omega), if_neg (by omega), if_neg (by decide)]
      have hnum : f_X9_numberIn kn (nI i) (fa (100 + i)) = some (b2i (q ra).isSome) := by rw [ea]; exact m_numberIn (by omega) hra hrow
      rw [if_pos ((ki10 hk).mpr rfl), hnum, en]
      simp only [Option.bind_some, hgv]
      cases e2 : q ra with
      | none =>
        rw [Option.isSome_none, if_pos (show b2i false = 0 by decide)]
        unfold f_X9_folded_131
        rw [if_neg (fun t => by have := (ki1 hk).mp t; omega), m_gives (by omega) hf w hrow, hgv]
        simp only [hwr, Option.isSome_none, Option.bind_some, reduceCtorEq, and_false, if_false, Bool.false_eq_true, Bool.and_false, Bool.or_false, b2i_f, if_true]
        rw [upd_id, upd_id, upd_id, upd_same hf.symm]
      | some v =>
        have h8 : (8 : Int32) * nI i + fa (100 + i) = nI (8 * i + ra) := by rw [ea, pn_8m, nI_add]
        rw [Option.isSome_some, if_neg (show ¬ b2i true = 0 by decide), h8, pn_gd (by omega) (by omega), nI_clamp (by omega), (hrow ra hra).2 v e2]
        unfold f_X9_folded_91 f_X9_folded_107 f_X9_folded_124
        rw [pn_h]
        simp only [g]
        rw [m_put (by omega), m_put (by omega), nI_clamp (show 100 + i < 2 ^ 31 by omega), m_put (by omega), m_put (by omega)]
        simp only [Option.bind_some]
        by_cases z : v = 0
        · subst z
          rw [if_pos rfl, if_neg (show ¬ (1 : Int32) = 0 by decide), if_neg (show ¬ (1 : Int32) = 0 by decide)]
          simp [hwr, b2i]
          rfl
        · rw [if_neg z]
          simp [hwr, b2i, z]
          rfl
    · have hk10 : (k == 10) = false := by simp [k10]
      rw [if_neg (fun t => k10 ((ki10 hk).mp t))]
      unfold f_X9_folded_131
      by_cases k1 : k = 1
      · subst k1
        have hgv : gv q 1 (fa (100 + i)) (fb (100 + i)) = some (fa (100 + i)) := by unfold gv; rw [if_pos rfl]
        have hb0 := w.2.2.2.2.2.2.2 (by decide)
        rw [if_pos ((ki1 hk).mpr rfl)]
        simp only [hgv, show wrK 1 = true by decide, Option.isSome_some, and_self, if_true, Option.getD_some]
        rw [upd_id, upd_same hb0.symm, upd_id, upd_same hf.symm]
        rfl
      · rw [if_neg (fun t => k1 ((ki1 hk).mp t)), m_gives (by omega) hf w hrow, m_given (by omega) hf w hrow, pn_h]
        simp only [Option.bind_some, g]
        rw [nI_clamp (show 100 + i < 2 ^ 31 by omega)]
        have hk1 : (k == 1) = false := by simp [k1]
        cases e2 : gv q k (fa (100 + i)) (fb (100 + i)) with
        | none =>
          rw [Option.isSome_none, if_pos (show b2i false = 0 by decide)]
          simp [hk10, k10]
          rw [upd_id, upd_id, upd_id, upd_same hf.symm]
          exact ⟨rfl, rfl, rfl, rfl, rfl⟩
        | some v =>
          have hwr : wrK k = true := by
            unfold gv at e2
            rw [if_neg k1] at e2
            by_cases k2 : k = 2
            · rw [k2]; decide
            · rw [if_neg k2] at e2
              cases e3 : arK k with
              | false => rw [e3] at e2; cases e2
              | true => exact (ar_of k hk e3).2.2.1
          rw [Option.isSome_some, if_neg (show ¬ b2i true = 0 by decide), m_put (by omega)]
          simp [hk10, hk1, hwr, b2i]
          rfl
end FR2
section FR3
variable {n L c : Nat} {S : FS} {kn nu re fa fb fd fk fs : Nat → Int32} {kp : Nat → Nat} {D A B : Nat → Int32}
abbrev fA' (S : FS) (kp : Nat → Nat) (D A B : Nat → Int32) : Nat → Int32 := fun i => foA S i (kp i) (D i) (A i) (B i)
abbrev fB' (S : FS) (kp : Nat → Nat) (D A B : Nat → Int32) : Nat → Int32 := fun i => foB S i (kp i) (D i) (A i) (B i)
abbrev fD' (S : FS) (kp : Nat → Nat) (D A B : Nat → Int32) : Nat → Int32 := fun i => foD S i (kp i) (D i) (A i) (B i)
abbrev fK' (S : FS) (kp : Nat → Nat) (D A B : Nat → Int32) : Nat → Nat := fun i => foK S i (kp i) (D i) (A i) (B i)
abbrev fC' (S : FS) (kp : Nat → Nat) (D A B : Nat → Int32) : Nat → Bool := fun i => foC S i (kp i) (D i) (A i) (B i)
theorem cpy_at0 (f g : Nat → Int32) (j : Nat) : va_cpy f g 0 0 j j = g j := pk_cpy_out (by omega)
theorem cpy_at1 (f g : Nat → Int32) (j : Nat) : va_cpy f g 0 100 j (100 + j) = g (100 + j) := pk_cpy_out (by omega)
theorem cpy_n0 (f g : Nat → Int32) (j : Nat) : upd (va_cpy f g 0 0 j) j (f j) = va_cpy f g 0 0 (j + 1) := by
  have := cpy_s f g 0 0 j
  rw [Nat.zero_add] at this
  exact this
theorem cpy_n1 (f g : Nat → Int32) (j : Nat) : upd (va_cpy f g 0 100 j) (100 + j) (f j) = va_cpy f g 0 100 (j + 1) := by
  have := cpy_s f g 0 100 j
  rw [Nat.zero_add] at this
  exact this
theorem s_rewr4 (hc : c ≤ 24) (hL : c ≤ L) (hLL : L < 2 ^ 31) (hf : ∀ i, i < c → fk i = nI (kp i)) (w : WP c kp fd fa fb) (hR : RelC c S kn nu re) : ∀ (k j : Nat), j ≤ c → c - j < k →
    f_X1_rewriteAll_4 n k L kn nu re (va_cpy (fA' S kp fd fa fb) fa 0 0 j) (va_cpy (fB' S kp fd fa fb) fb 0 0 j) (va_cpy (fD' S kp fd fa fb) fd 0 0 j) (va_cpy (fun i => nI (fK' S kp fd fa fb i)) fk 0 0 j) (nI c) (nI (cnN (fC' S kp fd fa fb) j)) (nI j)
      = some (nI (cnN (fC' S kp fd fa fb) c), va_cpy (fA' S kp fd fa fb) fa 0 0 c, va_cpy (fB' S kp fd fa fb) fb 0 0 c, va_cpy (fD' S kp fd fa fb) fd 0 0 c, va_cpy (fun i => nI (fK' S kp fd fa fb i)) fk 0 0 c) := by
  intro k
  induction k with
  | zero => intro j h1 h2; omega
  | succ k ih =>
    intro j hj hk
    rw [f_X1_rewriteAll_4]
    by_cases e : j = c
    · subst e
      rw [if_pos (nI_le (Nat.le_refl _) (by omega))]
    · have hlt : j < c := by omega
      have h1 := s_rewriteOne (L := L) (fa := va_cpy (fA' S kp fd fa fb) fa 0 0 j) (fb := va_cpy (fB' S kp fd fa fb) fb 0 0 j) (fd := va_cpy (fD' S kp fd fa fb) fd 0 0 j) (fk := va_cpy (fun i => nI (fK' S kp fd fa fb i)) fk 0 0 j) (k := kp j) hc hlt (by omega) hLL (by rw [cpy_at0]; exact hf j hlt) (by rw [cpy_at0, cpy_at0, cpy_at0]; exact w j hlt) hR
      rw [cpy_at0, cpy_at0, cpy_at0] at h1
      have ea := cpy_n0 (fA' S kp fd fa fb) fa j
      have eb := cpy_n0 (fB' S kp fd fa fb) fb j
      have ed := cpy_n0 (fD' S kp fd fa fb) fd j
      have ek := cpy_n0 (fun i => nI (fK' S kp fd fa fb i)) fk j
      have h2 : f_X1_rewriteOne L kn nu re (va_cpy (fA' S kp fd fa fb) fa 0 0 j) (va_cpy (fB' S kp fd fa fb) fb 0 0 j) (va_cpy (fD' S kp fd fa fb) fd 0 0 j) (va_cpy (fun i => nI (fK' S kp fd fa fb i)) fk 0 0 j) (nI j) = some (b2i (fC' S kp fd fa fb j), va_cpy (fA' S kp fd fa fb) fa 0 0 (j + 1), va_cpy (fB' S kp fd fa fb) fb 0 0 (j + 1), va_cpy (fD' S kp fd fa fb) fd 0 0 (j + 1), va_cpy (fun i => nI (fK' S kp fd fa fb i)) fk 0 0 (j + 1)) := by
        rw [← ea, ← eb, ← ed, ← ek]
        exact h1
      rw [if_neg (nI_ge hlt (by omega)), h2]
      simp only [Option.bind_some, pn_s]
      have hih := ih (j + 1) (by omega) (by omega)
      cases e2 : fC' S kp fd fa fb j with
      | false =>
        rw [if_pos (show b2i false = 0 by decide)]
        have : cnN (fC' S kp fd fa fb) (j + 1) = cnN (fC' S kp fd fa fb) j := by show cnN _ j + (if fC' S kp fd fa fb j = true then 1 else 0) = _; rw [e2]; rfl
        rw [this] at hih
        exact hih
      | true =>
        rw [if_neg (show ¬ b2i true = 0 by decide)]
        have : cnN (fC' S kp fd fa fb) (j + 1) = cnN (fC' S kp fd fa fb) j + 1 := by show cnN _ j + (if fC' S kp fd fa fb j = true then 1 else 0) = _; rw [e2]; rfl
        rw [this] at hih
        exact hih
theorem m_rewr121 (hc : c ≤ 24) (hs : fs 1 = nI c) (hf : ∀ i, i < c → fk (100 + i) = nI (kp i)) (hd : ∀ i, i < c → fd (100 + i) = D i) (ha : ∀ i, i < c → fa (100 + i) = A i) (hb : ∀ i, i < c → fb (100 + i) = B i) (w : WP c kp D A B) (hR : RelM c S kn nu re) (v : Int32) : ∀ (k j : Nat), j ≤ c → c - j < k →
    f_X9_fold_121 n k (va_cpy (fA' S kp D A B) fa 0 100 j) (va_cpy (fB' S kp D A B) fb 0 100 j) (va_cpy (fD' S kp D A B) fd 0 100 j) (va_cpy (fun i => nI (fK' S kp D A B i)) fk 0 100 j) kn nu re fs v (nI (cnN (fC' S kp D A B) j)) (nI j)
      = some (nI (cnN (fC' S kp D A B) c), va_cpy (fA' S kp D A B) fa 0 100 c, va_cpy (fB' S kp D A B) fb 0 100 c, va_cpy (fD' S kp D A B) fd 0 100 c, va_cpy (fun i => nI (fK' S kp D A B i)) fk 0 100 c, kn, nu, re, v) := by
  intro k
  induction k with
  | zero => intro j h1 h2; omega
  | succ k ih =>
    intro j hj hk
    rw [f_X9_fold_121, show (1 : Int32) = nI 1 from pn_1, pn_gd (by omega) (by omega), nI_clamp (show 1 < 2 ^ 31 by omega), hs]
    by_cases e : j = c
    · subst e
      rw [if_pos (nI_le (Nat.le_refl _) (by omega))]
    · have hlt : j < c := by omega
      have wj := w j hlt
      have h1 := m_folded (fa := va_cpy (fA' S kp D A B) fa 0 100 j) (fb := va_cpy (fB' S kp D A B) fb 0 100 j) (fd := va_cpy (fD' S kp D A B) fd 0 100 j) (fk := va_cpy (fun i => nI (fK' S kp D A B i)) fk 0 100 j) (k := kp j) hc hlt (by rw [cpy_at1]; exact hf j hlt) (by rw [cpy_at1, cpy_at1, cpy_at1, ha j hlt, hb j hlt, hd j hlt]; exact wj) hR
      rw [cpy_at1, cpy_at1, cpy_at1, ha j hlt, hb j hlt, hd j hlt] at h1
      have ea := cpy_n1 (fA' S kp D A B) fa j
      have eb := cpy_n1 (fB' S kp D A B) fb j
      have ed := cpy_n1 (fD' S kp D A B) fd j
      have ek := cpy_n1 (fun i => nI (fK' S kp D A B i)) fk j
      have h2 : f_X9_folded (va_cpy (fA' S kp D A B) fa 0 100 j) (va_cpy (fB' S kp D A B) fb 0 100 j) (va_cpy (fD' S kp D A B) fd 0 100 j) (va_cpy (fun i => nI (fK' S kp D A B i)) fk 0 100 j) kn nu re (nI j) = some (b2i (fC' S kp D A B j), va_cpy (fA' S kp D A B) fa 0 100 (j + 1), va_cpy (fB' S kp D A B) fb 0 100 (j + 1), va_cpy (fD' S kp D A B) fd 0 100 (j + 1), va_cpy (fun i => nI (fK' S kp D A B i)) fk 0 100 (j + 1)) := by
        rw [← ea, ← eb, ← ed, ← ek]
        exact h1
      rw [if_neg (nI_ge hlt (by omega)), h2, ← pn_1]
      simp only [Option.bind_some, pn_s]
      have hih := ih (j + 1) (by omega) (by omega)
      cases e2 : fC' S kp D A B j with
      | false =>
        rw [if_pos (show b2i false = 0 by decide)]
        have : cnN (fC' S kp D A B) (j + 1) = cnN (fC' S kp D A B) j := by show cnN _ j + (if fC' S kp D A B j = true then 1 else 0) = _; rw [e2]; rfl
        rw [this] at hih
        exact hih
      | true =>
        rw [if_neg (show ¬ b2i true = 0 by decide)]
        have : cnN (fC' S kp D A B) (j + 1) = cnN (fC' S kp D A B) j + 1 := by show cnN _ j + (if fC' S kp D A B j = true then 1 else 0) = _; rw [e2]; rfl
        rw [this] at hih
        exact hih
end FR3
/-- FOLD on both sides: one state, closed under a round, and the same rewriting -/
theorem fold_both {n L c : Nat} {fa fb fd fk ga gb gd9 gk fs : Nat → Int32} {kp : Nat → Nat} (hn : 300 < n) (hc : c ≤ 24) (h0 : 0 < c) (hL : c ≤ L) (hLL : L < 2 ^ 31) (hf : ∀ i, i < c → fk i = nI (kp i)) (w : WP c kp fd fa fb)
    (hs : fs 1 = nI c) (hk : ∀ i, i < c → gk (100 + i) = nI (kp i)) (hd : ∀ i, i < c → gd9 (100 + i) = fd i) (ha : ∀ i, i < c → ga (100 + i) = fa i) (hb : ∀ i, i < c → gb (100 + i) = fb i)
    {fl kn nu re mn mu9 me : Nat → Int32} {fkn ch v : Int32} (hch : ch = 0 ∨ ch = 1) :
    ∃ p S fl' kn' nu' re' fkn' mn' mu' me', S = itn (rnd kp fd fa fb c) p S00 ∧ (∀ j, j < c + 1 → rnd kp fd fa fb c S j = S j) ∧
      f_X1_fold n L fl kn nu re fa fb fd fk fkn ch (nI c) = some (nI (cnN (fC' S kp fd fa fb) c), fl', kn', nu', re', va_cpy (fA' S kp fd fa fb) fa 0 0 c, va_cpy (fB' S kp fd fa fb) fb 0 0 c, va_cpy (fD' S kp fd fa fb) fd 0 0 c, va_cpy (fun i => nI (fK' S kp fd fa fb i)) fk 0 0 c, fkn', 0) ∧
      f_X9_fold n ga gb gd9 gk mn mu9 me fs v = some (nI (cnN (fC' S kp fd fa fb) c), va_cpy (fA' S kp fd fa fb) ga 0 100 c, va_cpy (fB' S kp fd fa fb) gb 0 100 c, va_cpy (fD' S kp fd fa fb) gd9 0 100 c, va_cpy (fun i => nI (fK' S kp fd fa fb i)) gk 0 100 c, mn', mu', me', 0) := by
  obtain ⟨p, fl', kn', nu', re', fkn', h1, h2, h3⟩ := s_fold_flow (fl := fl) (kn := kn) (nu := nu) (re := re) (fkn := fkn) hn hc h0 hL hLL hf w hch
  obtain ⟨q, mn', mu', me', j1, j2, j3⟩ := m_fold_flow (kn := mn) (nu := mu9) (re := me) hn hc hs hk hd ha hb w v
  have e := itn_same (p := p) (q := q) h3 (fun j hj => j3 j (by omega))
  refine ⟨q, _, fl', kn', nu', re', fkn', mn', mu', me', rfl, j3, ?_, ?_⟩
  · rw [h1]
    unfold f_X1_fold_62 f_X1_rewriteAll
    have := s_rewr4 (n := n) hc hL hLL hf w (RelC_cong h2 e) n 0 (by omega) (by omega)
    rw [cpy_0, cpy_0, cpy_0, cpy_0] at this
    have this : f_X1_rewriteAll_4 n n L kn' nu' re' fa fb fd fk (nI c) 0 0 = _ := this
    rw [this]
    rfl
  · rw [j1]
    have := m_rewr121 (n := n) hc hs hk hd ha hb w j2 0 n 0 (by omega) (by omega)
    rw [cpy_0, cpy_0, cpy_0, cpy_0] at this
    exact this
