/-! PACK: what leaves, and where the others come; both sides. -/
def lvs (kp : Nat → Nat) (c : Nat) (D : Nat → Int32) (i : Nat) : Bool := kp i == 0 || (kp i == 9 && past kp c (nN (D i)) == past kp c (i + 1))
abbrev plN (kp : Nat → Nat) (c : Nat) (D : Nat → Int32) (i : Nat) : Nat := cnN (fun j => !lvs kp c D j) i
theorem nI_sub {a b : Nat} (h : b ≤ a) : nI a - nI b = nI (a - b) := by
  have : nI a = nI (a - b) + nI b := by rw [nI_add, Nat.sub_add_cancel h]
  rw [this, Int32.add_sub_cancel]
theorem cn_s {f : Nat → Bool} {i : Nat} : cnN f (i + 1) = cnN f i + (if f i = true then 1 else 0) := rfl
theorem cn_mono {f : Nat → Bool} : ∀ {i j : Nat}, i ≤ j → cnN f i ≤ cnN f j := fun {i j} h => by
  induction j with
  | zero => rw [show i = 0 by omega]; exact Nat.le_refl _
  | succ j ih =>
    by_cases z : i = j + 1
    · rw [z]; exact Nat.le_refl _
    · have := ih (by omega)
      rw [cn_s]; omega
theorem cn_lt {f : Nat → Bool} {i j : Nat} (h : i < j) (hf : f i = true) : cnN f i < cnN f j := by
  have h1 : cnN f (i + 1) ≤ cnN f j := cn_mono (by omega)
  rw [cn_s, if_pos hf] at h1
  omega
theorem cn_onto {f : Nat → Bool} : ∀ (c q : Nat), q < cnN f c → ∃ i, i < c ∧ f i = true ∧ cnN f i = q
  | 0, q, h => absurd h (Nat.not_lt_zero _)
  | c + 1, q, h => by
    rw [cn_s] at h
    by_cases z : q < cnN f c
    · obtain ⟨i, h1, h2, h3⟩ := cn_onto c q z
      exact ⟨i, by omega, h2, h3⟩
    · by_cases y : f c = true
      · rw [if_pos y] at h
        exact ⟨c, by omega, y, by omega⟩
      · rw [if_neg y] at h; omega
section PK2
variable {n L c : Nat} {kp : Nat → Nat} {D fa fb fk ga gb gd9 gk fs : Nat → Int32}
theorem nt_ok (hD : DOK kp c D) {i : Nat} (hi : i < c) (h9 : goK (kp i) = true) (hc : c ≤ 24) : ∃ t, t ≤ c ∧ D i = nI t ∧ nN (D i) = t := by
  obtain ⟨t, h1, h2⟩ := hD i hi h9
  exact ⟨t, h1, h2, by rw [h2]; exact nI_clamp (by omega)⟩
theorem s_choose4 (hn : 24 < n) (hc : c ≤ 24) (hL : c ≤ L) (hLL : L < 2 ^ 31) (hf : ∀ i, i < c → fk i = nI (kp i) ∧ kp i < 15) (hD : DOK kp c D) : ∀ (k j : Nat) {lv pl : Nat → Int32}, j ≤ c → c - j < k → (∀ i, i < j → lv i = b2i (lvs kp c D i) ∧ pl i = nI (plN kp c D i)) →
    ∃ lv' pl', f_X5_choose_4 n k L lv pl D fk (nI c) (nI (plN kp c D j)) (nI j) = some (lv', pl') ∧ (∀ i, i < c → lv' i = b2i (lvs kp c D i)) ∧ ∀ i, i ≤ c → pl' i = nI (plN kp c D i) := by
  intro k
  induction k with
  | zero => intro j lv pl h1 h2; omega
  | succ k ih =>
    intro j lv pl hj hk h
    rw [f_X5_choose_4]
    by_cases e : j = c
    · subst e
      rw [if_pos (nI_le (Nat.le_refl _) (by omega)), pn_gd (by omega) (by omega), nI_clamp (by omega)]
      refine ⟨_, _, rfl, fun i hi => (h i hi).1, fun i hi => ?_⟩
      by_cases z : i = j
      · rw [z, upd_s]
      · rw [upd_n _ z]; exact (h i (by omega)).2
    · have hlt : j < c := by omega
      have gj : ∀ {α : Type} {x : Option α}, gd (nI j) L x = x := pn_gd (by omega) hLL
      have step : ∀ (b : Bool), b = lvs kp c D j → ∃ lv' pl', f_X5_choose_40 n (fun f0_leaves' f0_place' x2' x3' => f_X5_choose_4 n k L f0_leaves' f0_place' D fk (nI c) x2' x3') L lv pl D fk (nI c) (nI (plN kp c D j)) (nI j) (nI j) (b2i b) = some (lv', pl') ∧ (∀ i, i < c → lv' i = b2i (lvs kp c D i)) ∧ ∀ i, i ≤ c → pl' i = nI (plN kp c D i) := fun b hb => by
        unfold f_X5_choose_40
        rw [pn_gd (show j < 24 by omega) (by omega), pn_gd (show j < 25 by omega) (by omega), pn_gd (show j < 24 by omega) (by omega), nI_clamp (by omega), nb_v (b2i_01 _), upd_s, pn_s, pn_s]
        have hinv : ∀ i, i < j + 1 → upd lv j (b2i b) i = b2i (lvs kp c D i) ∧ upd pl j (nI (plN kp c D j)) i = nI (plN kp c D i) := fun i hi => by
          by_cases z : i = j
          · rw [z, upd_s, upd_s, hb]; exact ⟨rfl, rfl⟩
          · rw [upd_n _ z, upd_n _ z]; exact h i (by omega)
        have hih := ih (j + 1) (by omega) (by omega) hinv
        cases b with
        | false =>
          rw [if_pos (show b2i false = 0 by decide)]
          have : plN kp c D (j + 1) = plN kp c D j + 1 := by rw [plN, cn_s, ← hb]; rfl
          rw [this] at hih
          exact hih
        | true =>
          rw [if_neg (show ¬ b2i true = 0 by decide)]
          have : plN kp c D (j + 1) = plN kp c D j := by rw [plN, cn_s, ← hb]; rfl
          rw [this] at hih
          exact hih
      have t1 := step true
      have t0 := step false
      rw [b2i_t] at t1
      rw [b2i_f] at t0
      rw [if_neg (nI_ge hlt (by omega)), gj, nI_clamp (by omega), (hf j hlt).1]
      simp only [ki0 (hf j hlt).2]
      by_cases z0 : kp j = 0
      · rw [if_pos z0]
        exact t1 (by unfold lvs; rw [z0]; rfl)
      · have hz0 : (kp j == 0) = false := by simp [z0]
        rw [if_neg z0]
        unfold f_X5_goesToNext
        rw [gj, nI_clamp (by omega), (hf j hlt).1]
        simp only [ki9 (hf j hlt).2, gj, pn_s]
        by_cases z9 : kp j = 9
        · obtain ⟨t, ht, et, hnt⟩ := nt_ok hD hlt (by rw [z9]; decide) hc
          rw [if_pos z9, et, s_past hn hc hL hLL hf ht, s_past hn hc hL hLL hf (show j + 1 ≤ c by omega)]
          simp only [Option.bind_some]
          have hlv : lvs kp c D j = (past kp c t == past kp c (j + 1)) := by unfold lvs; rw [hz0, z9, hnt]; rfl
          by_cases y : past kp c t = past kp c (j + 1)
          · rw [if_pos (by rw [y])]
            simp only [Option.bind_some]
            rw [if_neg (show ¬ (1 : Int32) = 0 by decide)]
            exact t1 (by rw [hlv, y, beq_self_eq_true])
          · rw [if_neg (fun h => y ((pI_eq hc (past_le ht).2 (past_le (by omega)).2).mp h))]
            simp only [Option.bind_some]
            rw [if_pos trivial]
            exact t0 (by rw [hlv]; exact (beq_eq_false_iff_ne.mpr y).symm)
        · rw [if_neg z9]
          simp only [Option.bind_some]
          rw [if_pos trivial]
          exact t0 (by unfold lvs; rw [hz0]; have : (kp j == 9) = false := by simp [z9]
                       rw [this]; rfl)
theorem m_pack108 (hn : 24 < n) (hc : c ≤ 24) (hs : fs 1 = nI c) (hf : ∀ i, i < c → gk (100 + i) = nI (kp i) ∧ kp i < 15) (hD : DOK kp c D) (hd : ∀ i, i < c → gd9 (100 + i) = D i) : ∀ (k j : Nat) {mk pl : Nat → Int32}, j ≤ c → c - j < k → (∀ i, i < j → mk i = b2i (lvs kp c D i) ∧ pl i = nI (plN kp c D i)) →
    ∃ mk' pl', f_X9_pack_108 n k ga gb gd9 gk mk pl fs (nI c) (nI (plN kp c D j)) (nI j) = f_X9_pack_220 n n ga gb gd9 gk mk' pl' (upd fs 3 0) (nI c) (nI (plN kp c D c)) 100 ∧ (∀ i, i < c → mk' i = b2i (lvs kp c D i)) ∧ ∀ i, i ≤ c → pl' i = nI (plN kp c D i) := by
  intro k
  induction k with
  | zero => intro j mk pl h1 h2; omega
  | succ k ih =>
    intro j mk pl hj hk h
    rw [f_X9_pack_108]
    by_cases e : j = c
    · subst e
      rw [if_pos (nI_le (Nat.le_refl _) (by omega)), pn_gd (show j < 26 by omega) (by omega), show (3 : Int32) = nI 3 by decide, pn_gd (show 3 < 4 by omega) (by omega), nI_clamp (show j < 2 ^ 31 by omega), nI_clamp (show 3 < 2 ^ 31 by omega)]
      refine ⟨_, _, rfl, fun i hi => (h i hi).1, fun i hi => ?_⟩
      by_cases z : i = j
      · rw [z, upd_s]
      · rw [upd_n _ z]; exact (h i (by omega)).2
    · have hlt : j < c := by omega
      have gj : ∀ {α : Type} {x : Option α}, gd (nI (100 + j)) 400 x = x := pn_gd (by omega) (by omega)
      have step : ∀ (b : Bool), b = lvs kp c D j → ∃ mk' pl', f_X9_pack_172 n (fun f0_a' f0_b' f0_d' f0_kind' f0_mark' f0_place' f0_size' x1' x2' x3' => f_X9_pack_108 n k f0_a' f0_b' f0_d' f0_kind' f0_mark' f0_place' f0_size' x1' x2' x3') ga gb gd9 gk mk pl fs (nI c) (nI (plN kp c D j)) (nI j) (nI j) (b2i b) = f_X9_pack_220 n n ga gb gd9 gk mk' pl' (upd fs 3 0) (nI c) (nI (plN kp c D c)) 100 ∧ (∀ i, i < c → mk' i = b2i (lvs kp c D i)) ∧ ∀ i, i ≤ c → pl' i = nI (plN kp c D i) := fun b hb => by
        unfold f_X9_pack_172
        have g26 : ∀ {α : Type} {x : Option α}, gd (nI j) 26 x = x := pn_gd (by omega) (by omega)
        simp only [g26]
        rw [nI_clamp (by omega), nb_v (b2i_01 _), upd_s, pn_s, pn_s]
        have hinv : ∀ i, i < j + 1 → upd mk j (b2i b) i = b2i (lvs kp c D i) ∧ upd pl j (nI (plN kp c D j)) i = nI (plN kp c D i) := fun i hi => by
          by_cases z : i = j
          · rw [z, upd_s, upd_s, hb]; exact ⟨rfl, rfl⟩
          · rw [upd_n _ z, upd_n _ z]; exact h i (by omega)
        have hih := ih (j + 1) (by omega) (by omega) hinv
        cases b with
        | false =>
          rw [if_pos (show b2i false = 0 by decide)]
          have : plN kp c D (j + 1) = plN kp c D j + 1 := by rw [plN, cn_s, ← hb]; rfl
          rw [this] at hih
          exact hih
        | true =>
          rw [if_neg (show ¬ b2i true = 0 by decide)]
          have : plN kp c D (j + 1) = plN kp c D j := by rw [plN, cn_s, ← hb]; rfl
          rw [this] at hih
          exact hih
      have t1 := step true
      have t0 := step false
      rw [b2i_t] at t1
      rw [b2i_f] at t0
      rw [if_neg (nI_ge hlt (by omega)), pn_h]
      simp only [gj]
      rw [nI_clamp (show 100 + j < 2 ^ 31 by omega), (hf j hlt).1, hd j hlt]
      simp only [ki0 (hf j hlt).2, ki9 (hf j hlt).2, pn_s]
      by_cases z0 : kp j = 0
      · rw [if_pos z0]
        exact t1 (by unfold lvs; rw [z0]; rfl)
      · have hz0 : (kp j == 0) = false := by simp [z0]
        rw [if_neg z0]
        by_cases z9 : kp j = 9
        · obtain ⟨t, ht, et, hnt⟩ := nt_ok hD hlt (by rw [z9]; decide) hc
          rw [if_pos z9, et, m_past hn hc hs hf ht, m_past hn hc hs hf (show j + 1 ≤ c by omega)]
          simp only [Option.bind_some]
          have hlv : lvs kp c D j = (past kp c t == past kp c (j + 1)) := by unfold lvs; rw [hz0, z9, hnt]; rfl
          by_cases y : past kp c t = past kp c (j + 1)
          · rw [if_pos (by rw [y])]
            exact t1 (by rw [hlv, y, beq_self_eq_true])
          · rw [if_neg (fun h => y (nIj h (by have := (past_le (kp := kp) ht).2; omega) (by have := (past_le (kp := kp) (show j + 1 ≤ c by omega)).2; omega)))]
            exact t0 (by rw [hlv]; exact (beq_eq_false_iff_ne.mpr y).symm)
        · rw [if_neg z9]
          exact t0 (by unfold lvs; rw [hz0]; have : (kp j == 9) = false := by simp [z9]
                       rw [this]; rfl)
/-- d of an instruction that stays, in its new program -/
def pkD (kp : Nat → Nat) (c : Nat) (D : Nat → Int32) (i : Nat) : Int32 := if goK (kp i) = true then nI (plN kp c D (nN (D i))) else D i
theorem s_takeOut11 (hc : c ≤ 24) (hL : c ≤ L) (hLL : L < 2 ^ 31) (hf : ∀ i, i < c → fk i = nI (kp i) ∧ kp i < 15) (hD : DOK kp c D) {lv pl : Nat → Int32} (hlv : ∀ i, i < c → lv i = b2i (lvs kp c D i)) (hpl : ∀ i, i ≤ c → pl i = nI (plN kp c D i)) : ∀ (k j : Nat) {ha hb hd hk : Nat → Int32}, j ≤ c → c - j < k →
    (∀ x, j ≤ x → ha x = fa x ∧ hb x = fb x ∧ hd x = D x ∧ hk x = fk x) → (∀ i, i < j → lvs kp c D i = false → ha (plN kp c D i) = fa i ∧ hb (plN kp c D i) = fb i ∧ hd (plN kp c D i) = pkD kp c D i ∧ hk (plN kp c D i) = nI (kp i)) →
    ∃ ha' hb' hd' hk', f_X5_takeOut_11 n k L lv pl ha hb hd hk (nI (plN kp c D j)) (nI c) (nI j) = some (nI (c - plN kp c D c), ha', hb', hd', hk', nI (plN kp c D c)) ∧ ∀ i, i < c → lvs kp c D i = false → ha' (plN kp c D i) = fa i ∧ hb' (plN kp c D i) = fb i ∧ hd' (plN kp c D i) = pkD kp c D i ∧ hk' (plN kp c D i) = nI (kp i) := by
  intro k
  induction k with
  | zero => intro j ha hb hd hk h1 h2; omega
  | succ k ih =>
    intro j ha hb hd hk hj hkk hge hlo
    rw [f_X5_takeOut_11]
    by_cases e : j = c
    · subst e
      rw [if_pos (nI_le (Nat.le_refl _) (by omega)), nI_sub (cnN_le _ _)]
      exact ⟨_, _, _, _, rfl, hlo⟩
    · have hlt : j < c := by omega
      have hplj : plN kp c D j ≤ j := cnN_le _ _
      have gj : ∀ {α : Type} {x : Option α}, gd (nI j) L x = x := pn_gd (by omega) hLL
      obtain ⟨g1, g2, g3, g4⟩ := hge j (Nat.le_refl _)
      rw [if_neg (nI_ge hlt (by omega)), pn_gd (show j < 24 by omega) (by omega), nI_clamp (by omega), hlv j hlt]
      cases el : lvs kp c D j with
      | true =>
        rw [if_neg (show ¬ b2i true = 0 by decide), pn_s]
        have : plN kp c D (j + 1) = plN kp c D j := by rw [plN, cn_s, el]; rfl
        have hih := ih (j + 1) (by omega) (by omega) (fun x hx => hge x (by omega)) (fun i hi hl => by
          by_cases z : i = j
          · rw [z, el] at hl; cases hl
          · exact hlo i (by omega) hl)
        rw [this] at hih
        exact hih
      | false =>
        rw [if_pos (show b2i false = 0 by decide)]
        have hps : plN kp c D (j + 1) = plN kp c D j + 1 := by rw [plN, cn_s, el]; rfl
        simp only [gj]
        rw [g4, (hf j hlt).1, s_goesToD _ (hf j hlt).2, g3]
        simp only [Option.bind_some]
        have fin : ∃ ha' hb' hd' hk', f_X5_takeOut_61 n (fun f1_a' f1_b' f1_d' f1_kind' v1_count' x2' x3' => f_X5_takeOut_11 n k L lv pl f1_a' f1_b' f1_d' f1_kind' v1_count' x2' x3') L lv pl ha hb hd hk (nI (plN kp c D j)) (nI c) (nI j) (nI (kp j)) (pkD kp c D j) = some (nI (c - plN kp c D c), ha', hb', hd', hk', nI (plN kp c D c)) ∧ ∀ i, i < c → lvs kp c D i = false → ha' (plN kp c D i) = fa i ∧ hb' (plN kp c D i) = fb i ∧ hd' (plN kp c D i) = pkD kp c D i ∧ hk' (plN kp c D i) = nI (kp i) := by
          unfold f_X5_takeOut_61
          simp only [gj]
          rw [nI_clamp (by omega), g1, g2, s_append (by omega) hLL]
          simp only [Option.bind_some, pn_s]
          have hih := ih (j + 1) (ha := upd ha (plN kp c D j) (fa j)) (hb := upd hb (plN kp c D j) (fb j)) (hd := upd hd (plN kp c D j) (pkD kp c D j)) (hk := upd hk (plN kp c D j) (nI (kp j))) (by omega) (by omega) (fun x hx => by
            have ne : x ≠ plN kp c D j := by omega
            rw [upd_n _ ne, upd_n _ ne, upd_n _ ne, upd_n _ ne]
            exact hge x (by omega)) (fun i hi hl => by
            by_cases z : i = j
            · rw [z, upd_s, upd_s, upd_s, upd_s]; exact ⟨rfl, rfl, rfl, rfl⟩
            · have ne : plN kp c D i ≠ plN kp c D j := by
                have := cn_lt (f := fun j => !lvs kp c D j) (show i < j by omega) (by show (!lvs kp c D i) = true; rw [hl]; rfl)
                show cnN _ i ≠ cnN _ j
                omega
              rw [upd_n _ ne, upd_n _ ne, upd_n _ ne, upd_n _ ne]
              exact hlo i (by omega) hl)
          rw [hps] at hih
          exact hih
        cases eg : goK (kp j) with
        | false =>
          rw [if_pos (show b2i false = 0 by decide)]
          have : pkD kp c D j = D j := by unfold pkD; rw [if_neg (by rw [eg]; decide)]
          rw [this] at fin
          exact fin
        | true =>
          obtain ⟨t, ht, et, hnt⟩ := nt_ok hD hlt eg hc
          have : pkD kp c D j = nI (plN kp c D t) := by unfold pkD; rw [if_pos eg, hnt]
          rw [this] at fin
          rw [if_neg (show ¬ b2i true = 0 by decide), et, pn_gd (by omega) (by omega), nI_clamp (by omega), hpl t ht]
          exact fin
theorem m_pack220 (hn : 100 < n) (hc : c ≤ 24) (hf : ∀ i, i < c → gk (100 + i) = nI (kp i) ∧ kp i < 15) (hD : DOK kp c D) (hd0 : ∀ i, i < c → gd9 (100 + i) = D i) {mk pl : Nat → Int32} (hlv : ∀ i, i < c → mk i = b2i (lvs kp c D i)) (hpl : ∀ i, i ≤ c → pl i = nI (plN kp c D i)) : ∀ (k j : Nat) {ha hb hd hk hs : Nat → Int32}, j ≤ c → c - j < k → hs 3 = nI (plN kp c D j) →
    (∀ x, x < 300 → ha x = ga x ∧ hb x = gb x ∧ hd x = gd9 x ∧ hk x = gk x) → (∀ i, i < j → lvs kp c D i = false → ha (300 + plN kp c D i) = ga (100 + i) ∧ hb (300 + plN kp c D i) = gb (100 + i) ∧ hd (300 + plN kp c D i) = pkD kp c D i ∧ hk (300 + plN kp c D i) = nI (kp i)) →
    ∃ ha' hb' hd' hk' hs', f_X9_pack_220 n k ha hb hd hk mk pl hs (nI c) (nI (plN kp c D c)) (nI (100 + j)) = some (nI (c - plN kp c D c), va_cpy ha' ha' 300 100 (plN kp c D c), va_cpy hb' hb' 300 100 (plN kp c D c), va_cpy hd' hd' 300 100 (plN kp c D c), va_cpy hk' hk' 300 100 (plN kp c D c), mk, pl, upd hs' 1 (nI (plN kp c D c))) ∧ (∀ x, x ≠ 3 → hs' x = hs x) ∧ (∀ x, x < 300 → ha' x = ga x ∧ hb' x = gb x ∧ hd' x = gd9 x ∧ hk' x = gk x) ∧
      ∀ i, i < c → lvs kp c D i = false → ha' (300 + plN kp c D i) = ga (100 + i) ∧ hb' (300 + plN kp c D i) = gb (100 + i) ∧ hd' (300 + plN kp c D i) = pkD kp c D i ∧ hk' (300 + plN kp c D i) = nI (kp i) := by
  intro k
  induction k with
  | zero => intro j ha hb hd hk hs h1 h2; omega
  | succ k ih =>
    intro j ha hb hd hk hs hj hkk hs3 hfr hlo
    have hplc : plN kp c D c ≤ c := cnN_le _ _
    rw [f_X9_pack_220, pn_h]
    by_cases e : j = c
    · subst e
      have hcp := m_copy (n := n) (p := 3) (q := 1) (c := plN kp j D j) (fa := ha) (fb := hb) (fd := hd) (fk := hk) (fs := hs) (by omega) (by omega) (by omega) hs3 (by omega) (by omega)
      have hcp : f_X9_copy n ha hb hd hk hs 3 1 = some (va_cpy ha ha 300 100 (plN kp j D j), va_cpy hb hb 300 100 (plN kp j D j), va_cpy hd hd 300 100 (plN kp j D j), va_cpy hk hk 300 100 (plN kp j D j), upd hs 1 (nI (plN kp j D j))) := hcp
      rw [if_pos (nI_le (Nat.le_refl _) (by omega)), hcp]
      simp only [Option.bind_some]
      rw [nI_sub hplc]
      exact ⟨ha, hb, hd, hk, hs, rfl, fun _ _ => rfl, hfr, hlo⟩
    · have hlt : j < c := by omega
      have hplj : plN kp c D j ≤ j := cnN_le _ _
      have gj : ∀ {α : Type} {x : Option α}, gd (nI (100 + j)) 400 x = x := pn_gd (by omega) (by omega)
      obtain ⟨g1, g2, g3, g4⟩ := hfr (100 + j) (by omega)
      have hm : nI (100 + j) - (100 : Int32) = nI j := by
        have := nI_sub (a := 100 + j) (b := 100) (by omega)
        rw [show 100 + j - 100 = j by omega] at this
        exact this
      rw [if_neg (nI_ge (by omega) (by omega)), hm, pn_gd (show j < 26 by omega) (by omega), nI_clamp (show j < 2 ^ 31 by omega), hlv j hlt]
      cases el : lvs kp c D j with
      | true =>
        rw [if_neg (show ¬ b2i true = 0 by decide), pn_s]
        have : plN kp c D (j + 1) = plN kp c D j := by rw [plN, cn_s, el]; rfl
        exact ih (j + 1) (by omega) (by omega) (by rw [this]; exact hs3) hfr (fun i hi hl => by
          by_cases z : i = j
          · rw [z, el] at hl; cases hl
          · exact hlo i (by omega) hl)
      | false =>
        rw [if_pos (show b2i false = 0 by decide)]
        have hps : plN kp c D (j + 1) = plN kp c D j + 1 := by rw [plN, cn_s, el]; rfl
        simp only [gj]
        rw [nI_clamp (show 100 + j < 2 ^ 31 by omega), g4, (hf j hlt).1, m_goes _ (hf j hlt).2, g3, hd0 j hlt]
        simp only [Option.bind_some]
        have fin : ∃ ha' hb' hd' hk' hs', f_X9_pack_280 n (fun f0_a' f0_b' f0_d' f0_kind' f0_mark' f0_place' f0_size' x1' x2' x3' => f_X9_pack_220 n k f0_a' f0_b' f0_d' f0_kind' f0_mark' f0_place' f0_size' x1' x2' x3') ha hb hd hk mk pl hs (nI c) (nI (plN kp c D c)) (nI (100 + j)) 3 (nI (kp j)) (pkD kp c D j) = some (nI (c - plN kp c D c), va_cpy ha' ha' 300 100 (plN kp c D c), va_cpy hb' hb' 300 100 (plN kp c D c), va_cpy hd' hd' 300 100 (plN kp c D c), va_cpy hk' hk' 300 100 (plN kp c D c), mk, pl, upd hs' 1 (nI (plN kp c D c))) ∧ (∀ x, x ≠ 3 → hs' x = hs x) ∧ (∀ x, x < 300 → ha' x = ga x ∧ hb' x = gb x ∧ hd' x = gd9 x ∧ hk' x = gk x) ∧
      ∀ i, i < c → lvs kp c D i = false → ha' (300 + plN kp c D i) = ga (100 + i) ∧ hb' (300 + plN kp c D i) = gb (100 + i) ∧ hd' (300 + plN kp c D i) = pkD kp c D i ∧ hk' (300 + plN kp c D i) = nI (kp i) := by
          unfold f_X9_pack_280
          simp only [gj]
          have hap := m_append (p := 3) (c := plN kp c D j) (fa := ha) (fb := hb) (fd := hd) (fk := hk) (fs := hs) (by omega) hs3 (by omega) (nI (kp j)) (pkD kp c D j) (ga (100 + j)) (gb (100 + j))
          have hap : f_X9_append ha hb hd hk hs 3 (nI (kp j)) (pkD kp c D j) (ga (100 + j)) (gb (100 + j)) = some (upd ha (300 + plN kp c D j) (ga (100 + j)), upd hb (300 + plN kp c D j) (gb (100 + j)), upd hd (300 + plN kp c D j) (pkD kp c D j), upd hk (300 + plN kp c D j) (nI (kp j)), upd hs 3 (nI (plN kp c D j + 1))) := hap
          rw [nI_clamp (show 100 + j < 2 ^ 31 by omega), g1, g2, hap]
          simp only [Option.bind_some, pn_s]
          obtain ⟨ha', hb', hd', hk', hs', i1, i2, i3, i4⟩ := ih (j + 1) (ha := upd ha (300 + plN kp c D j) (ga (100 + j))) (hb := upd hb (300 + plN kp c D j) (gb (100 + j))) (hd := upd hd (300 + plN kp c D j) (pkD kp c D j)) (hk := upd hk (300 + plN kp c D j) (nI (kp j))) (hs := upd hs 3 (nI (plN kp c D j + 1))) (by omega) (by omega) (by rw [upd_s, hps]) (fun x hx => by
            have ne : x ≠ 300 + plN kp c D j := by omega
            rw [upd_n _ ne, upd_n _ ne, upd_n _ ne, upd_n _ ne]
            exact hfr x hx) (fun i hi hl => by
            by_cases z : i = j
            · rw [z, upd_s, upd_s, upd_s, upd_s]; exact ⟨rfl, rfl, rfl, rfl⟩
            · have ne : 300 + plN kp c D i ≠ 300 + plN kp c D j := by
                have := cn_lt (f := fun j => !lvs kp c D j) (show i < j by omega) (by show (!lvs kp c D i) = true; rw [hl]; rfl)
                show 300 + cnN _ i ≠ 300 + cnN _ j
                omega
              rw [upd_n _ ne, upd_n _ ne, upd_n _ ne, upd_n _ ne]
              exact hlo i (by omega) hl)
          exact ⟨ha', hb', hd', hk', hs', i1, fun x hx => by rw [i2 x hx, upd_n _ hx], i3, i4⟩
        cases eg : goK (kp j) with
        | false =>
          rw [if_pos (show b2i false = 0 by decide)]
          have : pkD kp c D j = D j := by unfold pkD; rw [if_neg (by rw [eg]; decide)]
          rw [this] at fin
          exact fin
        | true =>
          obtain ⟨t, ht, et, hnt⟩ := nt_ok hD hlt eg hc
          have : pkD kp c D j = nI (plN kp c D t) := by unfold pkD; rw [if_pos eg, hnt]
          rw [this] at fin
          rw [if_neg (show ¬ b2i true = 0 by decide), et, pn_gd (by omega) (by omega), nI_clamp (by omega), hpl t ht]
          exact fin
end PK2
