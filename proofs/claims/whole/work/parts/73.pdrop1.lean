/-! DROP, both sides. -/
section DR
variable {n L c : Nat} {kp : Nat → Nat} {p : Nat → Nat → Bool} {bf fa fb fd fk ga gb gd9 gk fs : Nat → Int32}
def dpB (kp : Nat → Nat) (D : Nat → Int32) (p : Nat → Nat → Bool) (i : Nat) : Bool := onK (kp i) && !aftB kp D p i (nN (D i))
abbrev dK' (kp : Nat → Nat) (D : Nat → Int32) (p : Nat → Nat → Bool) : Nat → Nat := fun i => if dpB kp D p i = true then 0 else kp i
abbrev dX' (kp : Nat → Nat) (D : Nat → Int32) (p : Nat → Nat → Bool) (X : Nat → Int32) : Nat → Int32 := fun i => if dpB kp D p i = true then 0 else X i
theorem s_drop4 (hc : c ≤ 24) (hL : c ≤ L) (hLL : L < 2 ^ 31) (hf : ∀ i, i < c → fk i = nI (kp i)) (w : WP c kp fd fa fb) (hp : RelL c p bf) : ∀ (k j : Nat), j ≤ c → c - j < k →
    f_X3_dropUnused_4 n k L bf (va_cpy (dX' kp fd p fa) fa 0 0 j) (va_cpy (dX' kp fd p fb) fb 0 0 j) (va_cpy (dX' kp fd p fd) fd 0 0 j) (va_cpy (fun i => nI (dK' kp fd p i)) fk 0 0 j) (nI c) (nI (cnN (dpB kp fd p) j)) (nI j)
      = some (nI (cnN (dpB kp fd p) c), va_cpy (dX' kp fd p fa) fa 0 0 c, va_cpy (dX' kp fd p fb) fb 0 0 c, va_cpy (dX' kp fd p fd) fd 0 0 c, va_cpy (fun i => nI (dK' kp fd p i)) fk 0 0 c) := by
  intro k
  induction k with
  | zero => intro j h1 h2; omega
  | succ k ih =>
    intro j hj hk
    rw [f_X3_dropUnused_4]
    by_cases e : j = c
    · subst e
      rw [if_pos (nI_le (Nat.le_refl _) (by omega))]
    · have hlt : j < c := by omega
      have wj := w j hlt
      have hkk : kp j < 15 := by have := wj.1; omega
      have g : ∀ {α : Type} {x : Option α}, gd (nI j) L x = x := pn_gd (by omega) hLL
      obtain ⟨x, h1, h2⟩ := s_after (kp := kp) (fa := va_cpy (dX' kp fd p fa) fa 0 0 j) (fb := va_cpy (dX' kp fd p fb) fb 0 0 j) (fd := va_cpy (dX' kp fd p fd) fd 0 0 j) (fk := va_cpy (fun i => nI (dK' kp fd p i)) fk 0 0 j) hc hlt hL hLL (by rw [cpy_at0]; exact hf j hlt) (by rw [cpy_at0, cpy_at0, cpy_at0]; exact wj) hp
      have eaft : aftB kp (va_cpy (dX' kp fd p fd) fd 0 0 j) p j = aftB kp fd p j := by
        funext r
        unfold aftB
        rw [cpy_at0]
      rw [eaft] at h2
      rw [if_neg (nI_ge hlt (by omega)), h1]
      simp only [Option.bind_some, g]
      unfold f_X3_dropUnused_35
      simp only [g]
      rw [nI_clamp (by omega), cpy_at0, cpy_at0, hf j hlt, s_onlyGivesD _ hkk, s_put (by omega) hLL]
      simp only [Option.bind_some, pn_s]
      have hih := ih (j + 1) (by omega) (by omega)
      have stay : dpB kp fd p j = false → f_X3_dropUnused_4 n k L bf (va_cpy (dX' kp fd p fa) fa 0 0 j) (va_cpy (dX' kp fd p fb) fb 0 0 j) (va_cpy (dX' kp fd p fd) fd 0 0 j) (va_cpy (fun i => nI (dK' kp fd p i)) fk 0 0 j) (nI c) (nI (cnN (dpB kp fd p) j)) (nI (j + 1)) = some (nI (cnN (dpB kp fd p) c), va_cpy (dX' kp fd p fa) fa 0 0 c, va_cpy (dX' kp fd p fb) fb 0 0 c, va_cpy (dX' kp fd p fd) fd 0 0 c, va_cpy (fun i => nI (dK' kp fd p i)) fk 0 0 c) := fun hd => by
        have nx : ∀ X : Nat → Int32, va_cpy (dX' kp fd p X) X 0 0 (j + 1) = va_cpy (dX' kp fd p X) X 0 0 j := fun X => by
          rw [← cpy_n0]
          refine upd_same ?_
          rw [cpy_at0]
          show (if dpB kp fd p j = true then 0 else X j) = X j
          rw [hd]; rfl
        have nk : va_cpy (fun i => nI (dK' kp fd p i)) fk 0 0 (j + 1) = va_cpy (fun i => nI (dK' kp fd p i)) fk 0 0 j := by
          rw [← cpy_n0]
          refine upd_same ?_
          rw [cpy_at0, hf j hlt]
          show nI (if dpB kp fd p j = true then 0 else kp j) = nI (kp j)
          rw [hd]; rfl
        have hcn : cnN (dpB kp fd p) (j + 1) = cnN (dpB kp fd p) j := by show cnN _ j + (if dpB kp fd p j = true then 1 else 0) = _; rw [hd]; rfl
        rw [nx, nx, nx, nk, hcn] at hih
        exact hih
      cases eo : onK (kp j) with
      | false =>
        have hd : dpB kp fd p j = false := by unfold dpB; rw [eo]; rfl
        rw [if_pos (show b2i false = 0 by decide), if_pos (show b2i false = 0 by decide)]
        split <;> exact stay hd
      | true =>
        obtain ⟨rd, hr1, hr2⟩ := wj.2.1 (on_wr _ hkk eo)
        rw [if_neg (show ¬ b2i true = 0 by decide), if_neg (show ¬ b2i true = 0 by decide), if_neg (show ¬ (1 : Int32) = 0 by decide)]
        rw [show fd j = nI rd from hr2]
        have hdp : dpB kp fd p j = !aftB kp fd p j rd := by unfold dpB; rw [eo, hr2, nN_nI hr1]; rfl
        by_cases z : (x >>> (nI rd &&& 31)) &&& (1 : Int32) = 0
        · have hd : dpB kp fd p j = true := by rw [hdp, (bs_get0 h2 hr1).mp z]; rfl
          rw [if_pos z]
          have nx : ∀ X : Nat → Int32, va_cpy (dX' kp fd p X) X 0 0 (j + 1) = upd (va_cpy (dX' kp fd p X) X 0 0 j) j 0 := fun X => by
            rw [← cpy_n0]
            show upd _ j (if dpB kp fd p j = true then 0 else X j) = _
            rw [hd]; rfl
          have nk : va_cpy (fun i => nI (dK' kp fd p i)) fk 0 0 (j + 1) = upd (va_cpy (fun i => nI (dK' kp fd p i)) fk 0 0 j) j 0 := by
            rw [← cpy_n0]
            show upd _ j (nI (if dpB kp fd p j = true then 0 else kp j)) = _
            rw [hd]; rfl
          have hcn : cnN (dpB kp fd p) (j + 1) = cnN (dpB kp fd p) j + 1 := by show cnN _ j + (if dpB kp fd p j = true then 1 else 0) = _; rw [hd]; rfl
          rw [nx, nx, nx, nk, hcn] at hih
          exact hih
        · have hd : dpB kp fd p j = false := by
            rw [hdp]
            cases ea : aftB kp fd p j rd with
            | true => rfl
            | false => exact absurd ((bs_get0 h2 hr1).mpr ea) z
          rw [if_neg z, if_pos trivial]
          exact stay hd
theorem s_dropUnused (hn : 24 < n) (hc : c ≤ 24) (hL : c ≤ L) (hLL : L < 2 ^ 31) (hf : ∀ i, i < c → fk i = nI (kp i)) (w : WP c kp fd fa fb) (hp : RelL c p bf) :
    f_X3_dropUnused n L bf fa fb fd fk (nI c) = some (nI (cnN (dpB kp fd p) c), va_cpy (dX' kp fd p fa) fa 0 0 c, va_cpy (dX' kp fd p fb) fb 0 0 c, va_cpy (dX' kp fd p fd) fd 0 0 c, va_cpy (fun i => nI (dK' kp fd p i)) fk 0 0 c) := by
  have := s_drop4 (n := n) hc hL hLL hf w hp n 0 (by omega) (by omega)
  rw [cpy_0, cpy_0, cpy_0, cpy_0] at this
  exact this
theorem m_drop13 (hn : 30 < n) (hc : c ≤ 24) (hs : fs 1 = nI c) (w : WP c kp fd fa fb) (hk0 : ∀ i, i < c → gk (100 + i) = nI (kp i)) (hd0 : ∀ i, i < c → gd9 (100 + i) = fd i) (ha0 : ∀ i, i < c → ga (100 + i) = fa i) (hb0 : ∀ i, i < c → gb (100 + i) = fb i) (hp : LvS kp fd fa fb c p)
    (K : (Nat → Int32) → (Nat → Int32) → (Nat → Int32) → (Nat → Int32) → (Nat → Int32) → (Nat → Int32) → (Nat → Int32) → Int32 → Int32 → Option (Int32 × (Nat → Int32) × (Nat → Int32) × (Nat → Int32) × (Nat → Int32) × (Nat → Int32) × (Nat → Int32) × (Nat → Int32))) (x1 x2 : Int32) : ∀ (k j : Nat) {dn se mk : Nat → Int32}, j ≤ c → c - j < k → (∀ i, i < j → mk i = b2i (dpB kp fd p i)) →
    ∃ dn' se' mk', f_X9_drop_13 n K k ga gb gd9 dn gk mk se fs x1 x2 (nI j) = f_X9_drop_82 n K n ga gb gd9 dn' gk mk' se' fs x1 x2 0 ∧ ∀ i, i < c → mk' i = b2i (dpB kp fd p i) := by
  intro k
  induction k with
  | zero => intro j dn se mk h1 h2; omega
  | succ k ih =>
    intro j dn se mk hj hk hmk
    rw [f_X9_drop_13, show (1 : Int32) = nI 1 from pn_1, pn_gd (show 1 < 4 by omega) (by omega), nI_clamp (show 1 < 2 ^ 31 by omega), hs, ← pn_1]
    by_cases e : j = c
    · subst e
      rw [if_pos (nI_le (Nat.le_refl _) (by omega))]
      exact ⟨_, _, _, rfl, hmk⟩
    · have hlt : j < c := by omega
      have wj := w j hlt
      have hkk : kp j < 15 := by have := wj.1; omega
      have g100 : ∀ {α : Type} {x : Option α}, gd (nI (100 + j)) 400 x = x := pn_gd (by omega) (by omega)
      have g26 : ∀ {α : Type} {x : Option α}, gd (nI j) 26 x = x := pn_gd (by omega) (by omega)
      rw [if_neg (nI_ge hlt (by omega)), pn_h]
      unfold f_X9_drop_73
      simp only [g100, g26, pn_s]
      rw [nI_clamp (show 100 + j < 2 ^ 31 by omega), hk0 j hlt, hd0 j hlt, nI_clamp (show j < 2 ^ 31 by omega), nb_v (Or.inl rfl), nb_v (Or.inr rfl)]
      have l1 : (nI (kp j) < (1 : Int32)) ↔ kp j < 1 := nI_ltI (b := 1) (by omega) (by decide)
      have l5 : ((5 : Int32) < nI (kp j)) ↔ 5 < kp j := nI_ltI (a := 5) (by decide) (by omega)
      simp only [l1, l5]
      have step : ∀ v, v = b2i (dpB kp fd p j) → ∀ i, i < j + 1 → upd mk j v i = b2i (dpB kp fd p i) := fun v hv i hi => by
        by_cases z : i = j
        · rw [z, upd_s]; exact hv
        · rw [upd_n _ z]; exact hmk i (by omega)
      by_cases eo : 1 ≤ kp j ∧ kp j ≤ 5
      · have hon : onK (kp j) = true := by unfold onK; simp; omega
        obtain ⟨rd, hr1, hr2⟩ := wj.2.1 (on_wr _ hkk hon)
        have hdp : dpB kp fd p j = !aftB kp fd p j rd := by unfold dpB; rw [hon, hr2, nN_nI hr1]; rfl
        obtain ⟨dn', se', h⟩ := m_liveBehind (r := rd) hn hc hr1 hlt hs w hk0 hd0 ha0 hb0 hp dn se
        rw [if_neg (by omega), if_neg (by omega), hr2, h]
        simp only [Option.bind_some]
        cases ea : aftB kp fd p j rd with
        | false =>
          rw [if_pos (show b2i false = 0 by decide)]
          exact ih (j + 1) (by omega) (by omega) (step 1 (by rw [hdp, ea]; rfl))
        | true =>
          rw [if_neg (show ¬ b2i true = 0 by decide)]
          exact ih (j + 1) (by omega) (by omega) (step 0 (by rw [hdp, ea]; rfl))
      · have hon : onK (kp j) = false := by
          cases eo2 : onK (kp j) with
          | false => rfl
          | true => unfold onK at eo2; simp at eo2; exact absurd eo2 eo
        have hdp : dpB kp fd p j = false := by unfold dpB; rw [hon]; rfl
        have hih := ih (j + 1) (dn := dn) (se := se) (by omega) (by omega) (step 0 (by rw [hdp]; rfl))
        by_cases z : kp j < 1
        · rw [if_pos z]; exact hih
        · rw [if_neg z, if_pos (by omega)]; exact hih
theorem m_drop82 (hc : c ≤ 24) (hs : fs 1 = nI c) (hk0 : ∀ i, i < c → gk (100 + i) = nI (kp i)) {mk : Nat → Int32} (hmk : ∀ i, i < c → mk i = b2i (dpB kp fd p i)) (hd0 : ∀ i, i < c → gd9 (100 + i) = fd i) (ha0 : ∀ i, i < c → ga (100 + i) = fa i) (hb0 : ∀ i, i < c → gb (100 + i) = fb i)
    (K : (Nat → Int32) → (Nat → Int32) → (Nat → Int32) → (Nat → Int32) → (Nat → Int32) → (Nat → Int32) → (Nat → Int32) → Int32 → Int32 → Option (Int32 × (Nat → Int32) × (Nat → Int32) × (Nat → Int32) × (Nat → Int32) × (Nat → Int32) × (Nat → Int32) × (Nat → Int32))) (cnt : Nat) (x2 : Int32) (dn se : Nat → Int32) : ∀ (k j : Nat), j ≤ c → c - j < k →
    f_X9_drop_82 n K k (va_cpy (dX' kp fd p fa) ga 0 100 j) (va_cpy (dX' kp fd p fb) gb 0 100 j) (va_cpy (dX' kp fd p fd) gd9 0 100 j) dn (va_cpy (fun i => nI (dK' kp fd p i)) gk 0 100 j) mk se fs (nI (cnt + cnN (dpB kp fd p) j)) x2 (nI j)
      = K (va_cpy (dX' kp fd p fa) ga 0 100 c) (va_cpy (dX' kp fd p fb) gb 0 100 c) (va_cpy (dX' kp fd p fd) gd9 0 100 c) dn (va_cpy (fun i => nI (dK' kp fd p i)) gk 0 100 c) mk se (nI (cnt + cnN (dpB kp fd p) c)) x2 := by
  intro k
  induction k with
  | zero => intro j h1 h2; omega
  | succ k ih =>
    intro j hj hk
    rw [f_X9_drop_82, show (1 : Int32) = nI 1 from pn_1, pn_gd (show 1 < 4 by omega) (by omega), nI_clamp (show 1 < 2 ^ 31 by omega), hs, ← pn_1]
    by_cases e : j = c
    · subst e
      rw [if_pos (nI_le (Nat.le_refl _) (by omega))]
    · have hlt : j < c := by omega
      rw [if_neg (nI_ge hlt (by omega)), pn_gd (show j < 26 by omega) (by omega), nI_clamp (by omega), hmk j hlt, pn_h, m_put (by omega)]
      simp only [Option.bind_some, pn_s]
      have hih := ih (j + 1) (by omega) (by omega)
      cases hd : dpB kp fd p j with
      | false =>
        rw [if_pos (show b2i false = 0 by decide)]
        have nx : ∀ X Y : Nat → Int32, (∀ i, i < c → Y (100 + i) = X i) → va_cpy (dX' kp fd p X) Y 0 100 (j + 1) = va_cpy (dX' kp fd p X) Y 0 100 j := fun X Y hXY => by
          rw [← cpy_n1]
          refine upd_same ?_
          rw [cpy_at1, hXY j hlt]
          show (if dpB kp fd p j = true then 0 else X j) = X j
          rw [hd]; rfl
        have nk : va_cpy (fun i => nI (dK' kp fd p i)) gk 0 100 (j + 1) = va_cpy (fun i => nI (dK' kp fd p i)) gk 0 100 j := by
          rw [← cpy_n1]
          refine upd_same ?_
          rw [cpy_at1, hk0 j hlt]
          show nI (if dpB kp fd p j = true then 0 else kp j) = nI (kp j)
          rw [hd]; rfl
        have hcn : cnN (dpB kp fd p) (j + 1) = cnN (dpB kp fd p) j := by show cnN _ j + (if dpB kp fd p j = true then 1 else 0) = _; rw [hd]; rfl
        rw [nx fa ga ha0, nx fb gb hb0, nx fd gd9 hd0, nk, hcn] at hih
        exact hih
      | true =>
        rw [if_neg (show ¬ b2i true = 0 by decide)]
        have nx : ∀ X Y : Nat → Int32, va_cpy (dX' kp fd p X) Y 0 100 (j + 1) = upd (va_cpy (dX' kp fd p X) Y 0 100 j) (100 + j) 0 := fun X Y => by
          rw [← cpy_n1]
          show upd _ (100 + j) (if dpB kp fd p j = true then 0 else X j) = _
          rw [hd]; rfl
        have nk : va_cpy (fun i => nI (dK' kp fd p i)) gk 0 100 (j + 1) = upd (va_cpy (fun i => nI (dK' kp fd p i)) gk 0 100 j) (100 + j) 0 := by
          rw [← cpy_n1]
          show upd _ (100 + j) (nI (if dpB kp fd p j = true then 0 else kp j)) = _
          rw [hd]; rfl
        have hcn : cnN (dpB kp fd p) (j + 1) = cnN (dpB kp fd p) j + 1 := by show cnN _ j + (if dpB kp fd p j = true then 1 else 0) = _; rw [hd]; rfl
        rw [nx, nx, nx, nk, hcn] at hih
        exact hih
end DR
