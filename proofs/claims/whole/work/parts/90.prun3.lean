/-! RUN: both sides to the end. -/
def Ag (f g : Nat → Int32) : Prop := ∀ r, r < 8 → f r = g r
theorem Ag_upd {f g : Nat → Int32} (h : Ag f g) (i : Nat) (v : Int32) : Ag (upd f i v) (upd g i v) := fun r hr => by
  by_cases z : r = i
  · rw [z, upd_s, upd_s]
  · rw [upd_n _ z, upd_n _ z]; exact h r hr
/-- a step, where a LOAD and a CALL may give anything -/
def Nx (k : Nat) (d a b : Int32) (i : Nat) (R Sl : Nat → Int32) (j : Nat) (R' Sl' : Nat → Int32) : Prop :=
  ¬ k = 12 ∧ ¬ (k = 6 ∧ R (nN b) = 0) ∧ j = nxJ k d a R i ∧ Sl' = nxS k a b R Sl ∧ ∃ v, R' = nxR k d R v ∧ (k = 1 → v = a) ∧ (k = 2 → v = R (nN a)) ∧ (arK k = true → v = evK k (R (nN a)) (R (nN b))) ∧ (k = 13 → v = Sl (nN a))
/-- registers and slots as a run begins with them -/
def Ini (R Sl : Nat → Int32) : Prop := (∀ r, 2 ≤ r → r < 8 → R r = 0) ∧ ∀ r, r < 8 → Sl r = 0
/-- no run leaves the program -/
def NF (c : Nat) (kp : Nat → Nat) (D A B : Nat → Int32) : Prop := ∃ I : Nat → (Nat → Int32) → (Nat → Int32) → Prop, (∀ R Sl, Ini R Sl → I 0 R Sl) ∧ (∀ i R Sl, I i R Sl → i < c) ∧ ∀ i R Sl j R' Sl', I i R Sl → Nx (kp i) (D i) (A i) (B i) i R Sl j R' Sl' → I j R' Sl'
theorem raN {k : Nat} {d a b : Int32} (w : WA k d a b) (h : (raK k || k == 13 || k == 14) = true) : nN a < 8 := by
  obtain ⟨r, r1, r2⟩ := w.2.2.1 h
  rw [r2, nN_nI r1]; exact r1
theorem rbN {k : Nat} {d a b : Int32} (w : WA k d a b) (h : (rbK k || k == 14) = true) : nN b < 8 := by
  obtain ⟨r, r1, r2⟩ := w.2.2.2.1 h
  rw [r2, nN_nI r1]; exact r1
theorem flt_ag {k : Nat} {d a b : Int32} {R R' : Nat → Int32} {tc : Nat} (w : WA k d a b) (h : Ag R R') : flt k a b R' tc = flt k a b R tc := by
  unfold flt
  by_cases k6 : k = 6
  · rw [h (nN b) (rbN w (by rw [k6]; decide))]
    have n78 : ¬ (k = 7 ∨ k = 8) := by omega
    simp only [n78, false_and, if_false]
  · by_cases k78 : k = 7 ∨ k = 8
    · rw [h (nN a) (raN w (by rcases k78 with z | z <;> rw [z] <;> decide))]
      simp only [k6, false_and, if_false]
    · simp only [k6, k78, false_and, if_false]
theorem nxV_ag {k : Nat} {d a b : Int32} {R R' Sl Sl' M M' : Nat → Int32} {tc : Nat} (w : WA k d a b) (hf : flt k a b R tc = 0) (hR : Ag R R') (hS : Ag Sl Sl') (hM : Ag M M') (hw : (wrK k || k == 13) = true) : nxV k a b R' Sl' M' tc = nxV k a b R Sl M tc := by
  unfold nxV
  by_cases k1 : k = 1
  · rw [if_pos k1, if_pos k1]
  have hra : (raK k || k == 13 || k == 14) = true := by
    have : k = 2 ∨ k = 3 ∨ k = 4 ∨ k = 5 ∨ k = 6 ∨ k = 7 ∨ k = 11 ∨ k = 13 := by
      have hw2 := hw
      unfold wrK at hw2
      simp at hw2
      have := w.1
      omega
    rcases this with z | z | z | z | z | z | z | z <;> rw [z] <;> decide
  have e1 := hR (nN a) (raN w hra)
  rw [← e1, ← hS (nN a) (raN w hra)]
  by_cases k7 : k = 7
  · have hc : rgI (R (nN a)) = true := by
      cases er : rgI (R (nN a)) with
      | true => rfl
      | false =>
        unfold flt at hf
        rw [if_neg (show ¬ (k = 6 ∧ R (nN b) = 0) from fun t => by omega), if_pos ⟨Or.inl k7, er⟩] at hf
        cases hf
    obtain ⟨j, j1, j2⟩ := rg_cell hc
    rw [j2, nN_nI j1, hM j j1]
    have n2 : ¬ k = 2 := by omega
    simp only [k1, n2, k7, if_true, if_false]
  by_cases k2 : k = 2
  · simp only [k2, if_true, Nat.reduceEqDiff, if_false]
  by_cases k11 : k = 11
  · simp only [k11, if_true, Nat.reduceEqDiff, if_false]
  by_cases k13 : k = 13
  · simp only [k13, if_true, Nat.reduceEqDiff, if_false]
  · have hrb : (rbK k || k == 14) = true := by
      have : k = 3 ∨ k = 4 ∨ k = 5 ∨ k = 6 := by
        have hw2 := hw
        unfold wrK at hw2
        simp at hw2
        have := w.1
        omega
      rcases this with z | z | z | z <;> rw [z] <;> decide
    rw [hR (nN b) (rbN w hrb)]
    simp only [k1, k2, k7, k11, k13, if_false]
section RUN
variable {n L c base : Nat} {kp : Nat → Nat} {fa fb fd fk ga gb gd9 gk : Nat → Int32}
theorem run_loop (hL : c ≤ L) (hLL : L < 2 ^ 31) (hc : c ≤ 96) (hb : base = 0 ∨ base = 100) (hf : ∀ i, i < c → fk i = nI (kp i)) (hg : ∀ i, i < c → gk (base + i) = nI (kp i) ∧ gd9 (base + i) = fd i ∧ ga (base + i) = fa i ∧ gb (base + i) = fb i) (w : ∀ i, i < c → WA (kp i) (fd i) (fa i) (fb i))
    {I : Nat → (Nat → Int32) → (Nat → Int32) → Prop} (hI1 : ∀ i R Sl, I i R Sl → i < c) (hI2 : ∀ i R Sl j R' Sl', I i R Sl → Nx (kp i) (fd i) (fa i) (fb i) i R Sl j R' Sl' → I j R' Sl') (bgC bgM : Nat → Int32) (thr tk : Int32) :
    ∀ (m st : Nat) {i tc : Nat} {Rc Rm Sc Sm Mc Mm T : Nat → Int32} {ret val : Int32} (k1 k2 : Nat), m + st = 400 → m + 1 < k1 → m + 1 < k2 → tc ≤ 16 → I i Rc Sc → Ag Rc Rm → Ag Sc Sm → Ag Mc Mm →
    ∃ e Mc' Rc' Sc' T' tc' st' ret' Mm' Rm' Sm' val',
      f_X4_execute_12 n k1 L bgC Mc Rc Sc T fa fb fd fk (nI tc) (nI st) (-1) ret (nI c) (nI i) (nI st) = some (Mc', Rc', Sc', T', nI tc', nI st', nI e, ret') ∧
      f_X9_run_117 n k2 ga gb gd9 gk Mm Rm Sm bgM T thr tk (nI tc) (nI st) (-1) val (nI base) (nI i) = some (nI e, Mm', Rm', Sm', T', thr, nI tc', nI st', nI e, val') ∧
      Ag Mc' Mm' ∧ tc' ≤ 16 ∧ st' ≤ 400 ∧ e ≤ 4 ∧ (e = 0 → ret' = val') := by
  intro m
  induction m with
  | zero =>
    intro st i tc Rc Rm Sc Sm Mc Mm T ret val k1 k2 hst hk1 hk2 htc hI hR hS hM
    have hst : st = 400 := by omega
    have hic := hI1 i Rc Sc hI
    obtain ⟨k1, rfl⟩ : ∃ k', k1 = k' + 1 + 1 := ⟨k1 - 2, by omega⟩
    obtain ⟨k2, rfl⟩ : ∃ k', k2 = k' + 1 + 1 := ⟨k2 - 2, by omega⟩
    obtain ⟨g1, g2, g3, g4⟩ := hg i hic
    have hm := m_step (k := kp i) (st := st) (M := Mm) (R := Rm) (Sl := Sm) (T := T) (tc := tc) hb (show i < 100 by omega) g1 g2 g3 g4 (w i hic) htc (by omega) val (-1)
    rw [if_pos hst] at hm
    refine ⟨3, Mc, Rc, Sc, T, tc, st, ret, Mm, Rm, Sm, val, ?_, ?_, hM, htc, by omega, by omega, fun h => by cases h⟩
    · have l400 : ¬ (400 : Int32) < nI st := fun t => by have := (nI_ltI (a := 400) (by decide) (show st < 2 ^ 31 by omega)).mp t; omega
      have l400b : (400 : Int32) ≤ nI st := (nI_leI (a := 400) (by decide) (show st < 2 ^ 31 by omega)).mpr (by omega)
      rw [f_X4_execute_12, if_neg l400, if_pos rfl]
      unfold f_X4_doNext f_X4_doNext_18
      rw [if_pos l400b]
      simp only [Option.bind_some]
      rw [f_X4_execute_12]
      split
      · rfl
      · rw [if_neg (by decide)]; rfl
    · rw [f_X9_run_117, if_neg (by decide), nI_add, hm]
      simp only [Option.bind_some]
      rw [f_X9_run_117, if_pos (by decide)]
      rfl
  | succ m ih =>
    intro st i tc Rc Rm Sc Sm Mc Mm T ret val k1 k2 hst hk1 hk2 htc hI hR hS hM
    have hic := hI1 i Rc Sc hI
    obtain ⟨k1, rfl⟩ : ∃ k', k1 = k' + 1 := ⟨k1 - 1, by omega⟩
    obtain ⟨k2, rfl⟩ : ∃ k', k2 = k' + 1 := ⟨k2 - 1, by omega⟩
    obtain ⟨g1, g2, g3, g4⟩ := hg i hic
    have wi := w i hic
    have hm := m_step (k := kp i) (st := st) (M := Mm) (R := Rm) (Sl := Sm) (T := T) (tc := tc) hb (show i < 100 by omega) g1 g2 g3 g4 wi htc (by omega) val (-1)
    rw [if_neg (by omega), flt_ag wi hR] at hm
    have l400 : ¬ (400 : Int32) < nI st := fun t => by have := (nI_ltI (a := 400) (by decide) (show st < 2 ^ 31 by omega)).mp t; omega
    have l400b : ¬ (400 : Int32) ≤ nI st := fun t => by have := (nI_leI (a := 400) (by decide) (show st < 2 ^ 31 by omega)).mp t; omega
    have gL : ∀ {α : Type} {x : Option α}, gd (nI i) L x = x := pn_gd (by omega) hLL
    rw [f_X4_execute_12, if_neg l400, if_pos rfl, f_X9_run_117, if_neg (by decide), nI_add, hm]
    unfold f_X4_doNext
    rw [if_neg l400b, if_pos (nI_lt hic (by omega))]
    simp only [gL, nI_clamp (show i < 2 ^ 31 by omega), hf i hic]
    rw [s_fault wi htc]
    simp only [Option.bind_some]
    by_cases z : flt (kp i) (fa i) (fb i) Rc tc = 0
    · have hf0 : fI (flt (kp i) (fa i) (fb i) Rc tc) = -1 := by unfold fI; rw [if_pos z]
      rw [if_pos z, hf0, if_pos rfl, s_perform (by omega) hLL (hf i hic) wi htc z ret]
      simp only [Option.bind_some, pn_s]
      have aM : Ag (nxM (kp i) (fa i) (fb i) Rc Mc) (nxM (kp i) (fa i) (fb i) Rm Mm) := by
        unfold nxM
        by_cases k8 : kp i = 8
        · rw [if_pos k8, if_pos k8, ← hR _ (raN wi (by rw [k8]; decide)), ← hR _ (rbN wi (by rw [k8]; decide))]
          exact Ag_upd hM _ _
        · rw [if_neg k8, if_neg k8]; exact hM
      have aT : nxT (kp i) (fa i) Rm T tc = nxT (kp i) (fa i) Rc T tc := by
        unfold nxT
        by_cases k11 : kp i = 11
        · rw [if_pos k11, if_pos k11, ← hR _ (raN wi (by rw [k11]; decide))]
        · rw [if_neg k11, if_neg k11]
      have aC : nxC (kp i) tc ≤ 16 := by
        unfold nxC
        by_cases k11 : kp i = 11
        · rw [if_pos k11]
          unfold flt at z
          by_cases y : 16 ≤ tc
          · rw [if_neg (show ¬ (kp i = 6 ∧ Rc (nN (fb i)) = 0) from fun t => by omega), if_neg (show ¬ ((kp i = 7 ∨ kp i = 8) ∧ rgI (Rc (nN (fa i))) = false) from fun t => by omega), if_pos ⟨k11, y⟩] at z
            cases z
          · omega
        · rw [if_neg k11]; exact htc
      by_cases k12 : kp i = 12
      · obtain ⟨k1, rfl⟩ : ∃ k', k1 = k' + 1 := ⟨k1 - 1, by omega⟩
        obtain ⟨k2, rfl⟩ : ∃ k', k2 = k' + 1 := ⟨k2 - 1, by omega⟩
        rw [if_pos k12, if_pos k12, if_pos k12, if_pos k12, aT]
        refine ⟨0, nxM (kp i) (fa i) (fb i) Rc Mc, nxR (kp i) (fd i) Rc (nxV (kp i) (fa i) (fb i) Rc Sc Mc tc), nxS (kp i) (fa i) (fb i) Rc Sc, nxT (kp i) (fa i) Rc T tc, nxC (kp i) tc, st + 1, Rc (nN (fa i)), nxM (kp i) (fa i) (fb i) Rm Mm, nxR (kp i) (fd i) Rm (nxV (kp i) (fa i) (fb i) Rm Sm Mm tc), nxS (kp i) (fa i) (fb i) Rm Sm, Rm (nN (fa i)), ?_, ?_, aM, aC, by omega, by omega, fun _ => hR _ (raN wi (by rw [k12]; decide))⟩
        · rw [f_X4_execute_12]
          split
          · rfl
          · rw [if_neg (by decide)]; rfl
        · rw [f_X9_run_117, if_pos (by decide)]
          rfl
      · rw [if_neg k12, if_neg k12, if_neg k12, if_neg k12, aT]
        have aV : (wrK (kp i) || kp i == 13) = true → nxV (kp i) (fa i) (fb i) Rm Sm Mm tc = nxV (kp i) (fa i) (fb i) Rc Sc Mc tc := fun hw => nxV_ag wi z hR hS hM hw
        have aR : Ag (nxR (kp i) (fd i) Rc (nxV (kp i) (fa i) (fb i) Rc Sc Mc tc)) (nxR (kp i) (fd i) Rm (nxV (kp i) (fa i) (fb i) Rm Sm Mm tc)) := by
          unfold nxR
          by_cases hw : (wrK (kp i) || kp i == 13) = true
          · rw [if_pos hw, if_pos hw, aV hw]; exact Ag_upd hR _ _
          · rw [if_neg hw, if_neg hw]; exact hR
        have aS : Ag (nxS (kp i) (fa i) (fb i) Rc Sc) (nxS (kp i) (fa i) (fb i) Rm Sm) := by
          unfold nxS
          by_cases k14 : kp i = 14
          · rw [if_pos k14, if_pos k14, ← hR _ (raN wi (by rw [k14]; decide))]; exact Ag_upd hS _ _
          · rw [if_neg k14, if_neg k14]; exact hS
        have aJ : nxJ (kp i) (fd i) (fa i) Rm i = nxJ (kp i) (fd i) (fa i) Rc i := by
          unfold nxJ
          by_cases k10 : kp i = 10
          · rw [← hR _ (raN wi (by rw [k10]; decide))]
          · have e1 : ∀ x : Int32, (kp i = 9 ∨ (kp i = 10 ∧ x = 0)) ↔ kp i = 9 := fun x => ⟨fun h => by rcases h with h | h; exact h; exact absurd h.1 k10, fun h => Or.inl h⟩
            simp only [e1]
        have hI' : I (nxJ (kp i) (fd i) (fa i) Rc i) (nxR (kp i) (fd i) Rc (nxV (kp i) (fa i) (fb i) Rc Sc Mc tc)) (nxS (kp i) (fa i) (fb i) Rc Sc) := by
          refine hI2 i Rc Sc _ _ _ hI ⟨k12, fun t => ?_, rfl, rfl, _, rfl, fun h => ?_, fun h => ?_, fun h => ?_, fun h => ?_⟩
          · unfold flt at z
            rw [if_pos t] at z
            cases z
          · unfold nxV; rw [if_pos h]
          · unfold nxV; rw [if_neg (by omega), if_pos h]
          · have := ar_of (kp i) (by have := wi.1; omega) h
            unfold nxV
            rw [if_neg (by omega), if_neg (by omega), if_neg (by omega), if_neg (by omega), if_neg (by omega)]
          · unfold nxV
            rw [if_neg (by omega), if_neg (by omega), if_neg (by omega), if_neg (by omega), if_pos h]
        have hJb : nI (base + nxJ (kp i) (fd i) (fa i) Rc i) - nI base = nI (nxJ (kp i) (fd i) (fa i) Rc i) := by
          rw [nI_sub (by omega)]; congr 1; omega
        rw [aJ, hJb]
        exact ih (st + 1) k1 k2 (by omega) (by omega) (by omega) aC hI' aR aS aM
    · have he : flt (kp i) (fa i) (fb i) Rc tc ≤ 4 := by unfold flt; split <;> (try split) <;> (try split) <;> omega
      have hf0 : fI (flt (kp i) (fa i) (fb i) Rc tc) = nI (flt (kp i) (fa i) (fb i) Rc tc) := by unfold fI; rw [if_neg z]
      have hne : ∀ x, x ≤ 4 → ¬ nI x = (-1 : Int32) := by decide
      have hge : ∀ x, x ≤ 4 → (0 : Int32) ≤ nI x := by decide
      obtain ⟨k1, rfl⟩ : ∃ k', k1 = k' + 1 := ⟨k1 - 1, by omega⟩
      obtain ⟨k2, rfl⟩ : ∃ k', k2 = k' + 1 := ⟨k2 - 1, by omega⟩
      rw [if_neg z, hf0, if_neg (hne _ he)]
      simp only [Option.bind_some]
      refine ⟨flt (kp i) (fa i) (fb i) Rc tc, Mc, Rc, Sc, T, tc, st, ret, Mm, Rm, Sm, val, ?_, ?_, hM, htc, by omega, he, fun h => absurd h z⟩
      · rw [f_X4_execute_12]
        split
        · rfl
        · rw [if_neg (hne _ he)]
      · rw [f_X9_run_117, if_pos (hge _ he)]
end RUN
