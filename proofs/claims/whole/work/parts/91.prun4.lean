section RUN2
variable {n L c base : Nat} {kp : Nat → Nat} {fa fb fd fk ga gb gd9 gk : Nat → Int32}
theorem m_run25 {bgM T : Nat → Int32} {thr tk v5 v6 v7 val x1 x y : Int32} : ∀ (k j : Nat) {M R Sl : Nat → Int32}, j ≤ 8 → 8 - j < k → (∀ r, r < j → M r = bgM r ∧ R r = (if r = 0 then x else if r = 1 then y else 0) ∧ Sl r = 0) →
    ∃ M' R' Sl', f_X9_run_25 n k ga gb gd9 gk M R Sl bgM T thr tk v5 v6 v7 val x1 x y (nI j) = (if x1 = 0 then f_X9_run_117 n n ga gb gd9 gk M' R' Sl' bgM T thr tk 0 0 (-1) val 0 0 else f_X9_run_117 n n ga gb gd9 gk M' R' Sl' bgM T thr tk 0 0 (-1) val 100 0) ∧ ∀ r, r < 8 → M' r = bgM r ∧ R' r = (if r = 0 then x else if r = 1 then y else 0) ∧ Sl' r = 0 := by
  intro k
  induction k with
  | zero => intro j M R Sl h1 h2; omega
  | succ k ih =>
    intro j M R Sl hj hk h
    rw [f_X9_run_25]
    by_cases e : j = 8
    · rw [if_pos ((le8 (by omega)).mpr (by omega))]
      exact ⟨M, R, Sl, rfl, fun r hr => h r (by omega)⟩
    · have hlt : j < 8 := by omega
      have g : ∀ {α : Type} {z : Option α}, gd (nI j) 8 z = z := pn_gd hlt (by omega)
      rw [if_neg (fun z => e (by have := (le8 (by omega)).mp z; omega))]
      unfold f_X9_run_58
      simp only [g, pn_s]
      rw [nI_clamp (by omega)]
      have step : ∀ u : Int32, u = (if j = 0 then x else if j = 1 then y else 0) → ∀ r, r < j + 1 → upd M j (bgM j) r = bgM r ∧ upd R j u r = (if r = 0 then x else if r = 1 then y else 0) ∧ upd Sl j 0 r = 0 := fun u hu r hr => by
        by_cases z : r = j
        · rw [z, upd_s, upd_s, upd_s]; exact ⟨rfl, hu, rfl⟩
        · rw [upd_n _ z, upd_n _ z, upd_n _ z]; exact h r (by omega)
      by_cases z0 : j = 0
      · rw [if_pos (by rw [z0]; rfl)]
        exact ih (j + 1) (by omega) (by omega) (step x (by rw [if_pos z0]))
      · rw [if_neg (nI_ne0 (by omega) (by omega))]
        by_cases z1 : j = 1
        · rw [if_pos (by rw [z1]; rfl)]
          exact ih (j + 1) (by omega) (by omega) (step y (by rw [if_neg z0, if_pos z1]))
        · rw [if_neg (show ¬ nI j = (1 : Int32) from fun t => z1 (nIj t (by omega) (by omega)))]
          exact ih (j + 1) (by omega) (by omega) (step 0 (by rw [if_neg z0, if_neg z1]))
theorem run_both (hn : 410 < n) (hL : c ≤ L) (hLL : L < 2 ^ 31) (hc : c ≤ 96) {x1 : Int32} (hb : base = if x1 = 0 then 0 else 100) (hf : ∀ i, i < c → fk i = nI (kp i)) (hg : ∀ i, i < c → gk (base + i) = nI (kp i) ∧ gd9 (base + i) = fd i ∧ ga (base + i) = fa i ∧ gb (base + i) = fb i) (w : ∀ i, i < c → WA (kp i) (fd i) (fa i) (fb i)) (nf : NF c kp fd fa fb)
    {bgC bgM Mc Rc Sc Mm Rm Sm T : Nat → Int32} {a1 a2 a3 a4 b1 b2 b3 b4 thr : Int32} (hbg : Ag bgC bgM) (x y : Int32) :
    ∃ e Mc' Rc' Sc' T' tc' st' ret' Mm' Rm' Sm' val',
      f_X4_execute n L bgC Mc Rc Sc T fa fb fd fk a1 a2 a3 a4 (nI c) x y = some (Mc', Rc', Sc', T', nI tc', nI st', nI e, ret') ∧
      f_X9_run n ga gb gd9 gk Mm Rm Sm bgM T thr 1 b1 b2 b3 b4 x1 x y = some (nI e, Mm', Rm', Sm', T', 0, nI tc', nI st', nI e, val') ∧
      Ag Mc' Mm' ∧ tc' ≤ 16 ∧ st' ≤ 400 ∧ e ≤ 4 ∧ (e = 0 → ret' = val') := by
  obtain ⟨I, i1, i2, i3⟩ := nf
  have hb2 : base = 0 ∨ base = 100 := by
    rw [hb]; split
    · exact Or.inl rfl
    · exact Or.inr rfl
  obtain ⟨R0, r1, r2⟩ := s_fill n (Ln := 8) (by omega) 0 n 0 Rc (by omega) (by omega) (fun i hi => by omega)
  obtain ⟨S0, s1, s2⟩ := s_fill n (Ln := 8) (by omega) 0 n 0 Sc (by omega) (by omega) (fun i hi => by omega)
  obtain ⟨M', R', Sl', m1, m2⟩ := m_run25 (n := n) (ga := ga) (gb := gb) (gd9 := gd9) (gk := gk) (bgM := bgM) (T := T) (thr := 0) (tk := 1) (v5 := b1) (v6 := b2) (v7 := b3) (val := b4) (x1 := x1) (x := x) (y := y) n 0 (M := Mm) (R := Rm) (Sl := Sm) (by omega) (by omega) (fun r hr => by omega)
  rw [← pn_0] at m1
  have hR : Ag (upd (upd R0 0 x) 1 y) R' := fun r hr => by
    rw [(m2 r hr).2.1]
    by_cases z1 : r = 1
    · rw [z1, upd_s, if_neg (by decide), if_pos rfl]
    · rw [upd_n _ z1]
      by_cases z0 : r = 0
      · rw [z0, upd_s, if_pos rfl]
      · rw [upd_n _ z0, r2 r hr, if_neg z0, if_neg z1]
  have hS : Ag S0 Sl' := fun r hr => by rw [s2 r hr, (m2 r hr).2.2]
  have hM : Ag (va_cpy bgC Mc 0 0 8) M' := fun r hr => by
    rw [pk_cpy_in (by omega) (by omega), show 0 + (r - 0) = r by omega, hbg r hr, (m2 r hr).1]
  have hI := i1 (upd (upd R0 0 x) 1 y) S0 ⟨fun r h2 hr => by rw [upd_n _ (by omega), upd_n _ (by omega)]; exact r2 r hr, s2⟩
  obtain ⟨e, Mc', Rc', Sc', T', tc', st', ret', Mm', Rm', Sm', val', j1, j2, j3⟩ := run_loop (n := n) (L := L) (base := base) hL hLL hc hb2 hf hg w i2 i3 bgC bgM 0 1 400 0 (tc := 0) (T := T) (ret := a4) (val := b4) n n (by omega) (by omega) (by omega) (by omega) hI hR hS hM
  refine ⟨e, Mc', Rc', Sc', T', tc', st', ret', Mm', Rm', Sm', val', ?_, ?_, j3⟩
  · unfold f_X4_execute f_X4_begin
    have r1 : f_J7_fill_53178 n 8 Rc 0 = some R0 := r1
    have s1 : f_J7_fill_53178 n 8 Sc 0 = some S0 := s1
    rw [r1]
    simp only [Option.bind_some]
    rw [s1]
    simp only [Option.bind_some]
    rw [show (0 : Int32) = nI 0 from pn_0, show (1 : Int32) = nI 1 from pn_1, pn_gd (show 0 < 8 by omega) (by omega), pn_gd (show 1 < 8 by omega) (by omega), nI_clamp (show 0 < 2 ^ 31 by omega), nI_clamp (show 1 < 2 ^ 31 by omega), gc_in ⟨by decide, by decide, by decide, by decide, by decide⟩]
    exact j1
  · unfold f_X9_run f_X9_run_13
    have ht : f_X9_throwing thr 0 0 = some (0, 0) := m_throwing thr false false
    rw [if_neg (show ¬ (1 : Int32) = 0 by decide), ht]
    simp only [Option.bind_some]
    rw [if_pos trivial, m1]
    by_cases z : x1 = 0
    · rw [if_pos z] at hb ⊢
      rw [hb] at j2
      exact j2
    · rw [if_neg z] at hb ⊢
      rw [hb] at j2
      exact j2
theorem m_run_no {bgM Mm Rm Sm T : Nat → Int32} {thr b1 b2 b3 b4 x1 x y : Int32} : f_X9_run n ga gb gd9 gk Mm Rm Sm bgM T thr 0 b1 b2 b3 b4 x1 x y = some (0, Mm, Rm, Sm, T, 1, b1, b2, b3, b4) := by
  unfold f_X9_run f_X9_run_13
  have ht : f_X9_throwing thr 1 0 = some (1, 1) := m_throwing thr true false
  rw [if_pos rfl, ht]
  rfl
end RUN2
/-! length, look, steps, both sides -/
section LK
variable {Lo Lp co cq : Nat} {oa ob od ok pa pb pd pk ga gb gd9 gk fs : Nat → Int32} {v : Int32}
theorem len_both (h0 : fs 0 = nI co) (h1 : fs 1 = nI cq) (x1 : Int32) : ∃ r, f_X8_length (nI co) (nI cq) x1 = some r ∧ f_X9_length fs v x1 = some (r, 0) := by
  unfold f_X8_length f_X9_length
  rw [show (0 : Int32) = nI 0 from pn_0, show (1 : Int32) = nI 1 from pn_1, pn_gd (by omega) (by omega), pn_gd (by omega) (by omega), nI_clamp (by omega), nI_clamp (by omega), h0, h1]
  by_cases z : x1 = nI 0
  · rw [if_pos z, if_pos z]; exact ⟨_, rfl, rfl⟩
  · rw [if_neg z, if_neg z]; exact ⟨_, rfl, rfl⟩
/-- which of four numbers -/
def pick (x3 k d a b : Int32) : Int32 := if x3 = 0 then k else if x3 = 1 then d else if x3 = 2 then a else b
theorem m_look9 {p c : Nat} (hp : p < 4) (hs : fs p = nI c) (hc : c ≤ 100) (x2 x3 : Int32) :
    f_X9_look_9 ga gb gd9 gk fs v x2 x3 (nI p) = some (if (x3 < 0 ∨ ¬ x3 < 4) then (0, 1) else if (x2 < 0 ∨ ¬ x2 < nI c) then (0, 2) else (pick x3 (gk (100 * p + nN x2)) (gd9 (100 * p + nN x2)) (ga (100 * p + nN x2)) (gb (100 * p + nN x2)), 0)) := by
  unfold f_X9_look_9
  rw [m_out]
  simp only [Option.bind_some]
  rw [pn_gd hp (by omega), nI_clamp (by omega), hs, m_out]
  simp only [Option.bind_some]
  rw [m_throwing]
  simp only [Option.bind_some]
  have o1 : (decide (x3 < 0) || !decide (x3 < 4)) = decide (x3 < 0 ∨ ¬ x3 < 4) := by
    by_cases a1 : x3 < 0 <;> by_cases a2 : x3 < 4 <;> simp [a1, a2]
  have o2 : (decide (x2 < 0) || !decide (x2 < nI c)) = decide (x2 < 0 ∨ ¬ x2 < nI c) := by
    by_cases a1 : x2 < 0 <;> by_cases a2 : x2 < nI c <;> simp [a1, a2]
  rw [o1, o2]
  by_cases z3 : x3 < 0 ∨ ¬ x3 < 4
  · rw [decide_eq_true z3, if_pos z3, Bool.true_or, if_neg (show ¬ b2i true = 0 by decide), if_pos rfl]
  · rw [decide_eq_false z3, if_neg z3, Bool.false_or]
    by_cases z2 : x2 < 0 ∨ ¬ x2 < nI c
    · rw [decide_eq_true z2, if_pos z2, if_neg (show ¬ b2i true = 0 by decide), if_neg (by decide), if_pos rfl]
    · rw [decide_eq_false z2, if_neg z2, if_pos (show b2i false = 0 by decide), if_neg (show ¬ false = true by decide), if_neg (show ¬ false = true by decide)]
      have hx0 : ¬ x2 < 0 := fun t => z2 (Or.inl t)
      obtain ⟨j, j1, j2⟩ := nI_of hx0
      have hjc : j < c := by
        have h : x2 < nI c := Classical.byContradiction (fun t => z2 (Or.inr t))
        rw [j2] at h
        exact (nI_ltI (by omega) (by omega)).mp h
      have e : (100 : Int32) * nI p + x2 = nI (100 * p + j) := by rw [j2, show (100 : Int32) * nI p = nI (100 * p) from pn_m 100 p, nI_add]
      have g : ∀ {α : Type} {z : Option α}, gd (nI (100 * p + j)) 400 z = z := pn_gd (by omega) (by omega)
      have hn : nN x2 = j := by rw [j2]; exact nI_clamp (by omega)
      rw [e, hn]
      simp only [g, nI_clamp (show 100 * p + j < 2 ^ 31 by omega)]
      unfold pick
      split
      · rfl
      · split
        · rfl
        · split <;> rfl
theorem s_look1 {L c : Nat} {fa fb fd fk : Nat → Int32} (hL : c ≤ L) (hLL : L < 2 ^ 31) (x2 x3 : Int32) (A : Option (Int32 × Int32)) (hA : A = (if x2 < 0 then (some ((3 : Int32), (0 : Int32))) else (if x2 < nI c then (if x3 = (0 : Int32) then (gd x2 L (some ((0 : Int32), (fk (x2).toNatClampNeg)))) else if x3 = (1 : Int32) then (gd x2 L (some ((0 : Int32), (fd (x2).toNatClampNeg)))) else if x3 = (2 : Int32) then (gd x2 L (some ((0 : Int32), (fa (x2).toNatClampNeg)))) else (gd x2 L (some ((0 : Int32), (fb (x2).toNatClampNeg))))) else (some ((3 : Int32), (0 : Int32)))))) :
    A = some (if (x2 < 0 ∨ ¬ x2 < nI c) then (3, 0) else (0, pick x3 (fk (nN x2)) (fd (nN x2)) (fa (nN x2)) (fb (nN x2)))) := by
  rw [hA]
  by_cases z0 : x2 < 0
  · rw [if_pos z0, if_pos (Or.inl z0)]
  · rw [if_neg z0]
    by_cases z1 : x2 < nI c
    · obtain ⟨j, j1, j2⟩ := nI_of z0
      have hjc : j < c := by
        rw [j2] at z1
        exact (nI_ltI (by omega) (by omega)).mp z1
      have g : ∀ {α : Type} {z : Option α}, gd x2 L z = z := by rw [j2]; exact pn_gd (by omega) hLL
      rw [if_pos z1, if_neg (show ¬ (x2 < 0 ∨ ¬ x2 < nI c) from fun t => t.elim z0 (fun u => u z1))]
      simp only [g]
      unfold pick
      split
      · rfl
      · split
        · rfl
        · split <;> rfl
    · rw [if_neg z1, if_pos (Or.inr z1)]
theorem look_both (ho : co ≤ Lo) (hLo : Lo < 2 ^ 31) (hp : cq ≤ Lp) (hLp : Lp < 2 ^ 31) (hco : co ≤ 100) (hcq : cq ≤ 100) (h0 : fs 0 = nI co) (h1 : fs 1 = nI cq)
    (hO : ∀ i, i < co → gk i = ok i ∧ gd9 i = od i ∧ ga i = oa i ∧ gb i = ob i) (hP : ∀ i, i < cq → gk (100 + i) = pk i ∧ gd9 (100 + i) = pd i ∧ ga (100 + i) = pa i ∧ gb (100 + i) = pb i) (x1 x2 x3 : Int32) :
    (f_X8_look Lo Lp oa ob od ok pa pb pd pk (nI co) (nI cq) x1 x2 x3 = some (1, 0) ∧ f_X9_look ga gb gd9 gk fs v x1 x2 x3 = some (0, 1)) ∨
    (f_X8_look Lo Lp oa ob od ok pa pb pd pk (nI co) (nI cq) x1 x2 x3 = some (3, 0) ∧ f_X9_look ga gb gd9 gk fs v x1 x2 x3 = some (0, 2)) ∨
    ∃ r, f_X8_look Lo Lp oa ob od ok pa pb pd pk (nI co) (nI cq) x1 x2 x3 = some (0, r) ∧ f_X9_look ga gb gd9 gk fs v x1 x2 x3 = some (r, 0) := by
  have l3 : x3 ≤ 3 ↔ x3 < 4 := by
    rw [Int32.le_iff_toInt_le, Int32.lt_iff_toInt_lt]
    have a : (3 : Int32).toInt = 3 := by decide
    have b : (4 : Int32).toInt = 4 := by decide
    rw [a, b]; omega
  have key : ∀ (p c : Nat) (L : Nat) (fa fb fd fk : Nat → Int32), p < 4 → fs p = nI c → c ≤ 100 → c ≤ L → L < 2 ^ 31 → (∀ i, i < c → gk (100 * p + i) = fk i ∧ gd9 (100 * p + i) = fd i ∧ ga (100 * p + i) = fa i ∧ gb (100 * p + i) = fb i) →
      ∀ A, A = (if x2 < 0 then (some ((3 : Int32), (0 : Int32))) else (if x2 < nI c then (if x3 = (0 : Int32) then (gd x2 L (some ((0 : Int32), (fk (x2).toNatClampNeg)))) else if x3 = (1 : Int32) then (gd x2 L (some ((0 : Int32), (fd (x2).toNatClampNeg)))) else if x3 = (2 : Int32) then (gd x2 L (some ((0 : Int32), (fa (x2).toNatClampNeg)))) else (gd x2 L (some ((0 : Int32), (fb (x2).toNatClampNeg))))) else (some ((3 : Int32), (0 : Int32))))) →
      ((if x3 < 0 then some (1, 0) else if x3 ≤ 3 then A else some (1, 0)) = some (1, 0) ∧ f_X9_look_9 ga gb gd9 gk fs v x2 x3 (nI p) = some (0, 1)) ∨
      ((if x3 < 0 then some (1, 0) else if x3 ≤ 3 then A else some (1, 0)) = some (3, 0) ∧ f_X9_look_9 ga gb gd9 gk fs v x2 x3 (nI p) = some (0, 2)) ∨
      ∃ r, (if x3 < 0 then some (1, 0) else if x3 ≤ 3 then A else some (1, 0)) = some (0, r) ∧ f_X9_look_9 ga gb gd9 gk fs v x2 x3 (nI p) = some (r, 0) := fun p c L fa fb fd fk hp hs hc hL hLL hrow A hA => by
    rw [m_look9 hp hs hc, s_look1 (fa := fa) (fb := fb) (fd := fd) (fk := fk) hL hLL x2 x3 A hA]
    by_cases z : x3 < 0
    · rw [if_pos z, if_pos (Or.inl z)]; exact Or.inl ⟨rfl, rfl⟩
    · rw [if_neg z]
      by_cases y : x3 < 4
      · rw [if_pos (l3.mpr y), if_neg (show ¬ (x3 < 0 ∨ ¬ x3 < 4) from fun t => t.elim z (fun u => u y))]
        by_cases q : x2 < 0 ∨ ¬ x2 < nI c
        · rw [if_pos q, if_pos q]; exact Or.inr (Or.inl ⟨rfl, rfl⟩)
        · rw [if_neg q, if_neg q]
          obtain ⟨j, j1, j2⟩ := nI_of (show ¬ x2 < 0 from fun t => q (Or.inl t))
          have hjc : j < c := by
            have h : x2 < nI c := Classical.byContradiction (fun t => q (Or.inr t))
            rw [j2] at h
            exact (nI_ltI (by omega) (by omega)).mp h
          have hn : nN x2 = j := by rw [j2]; exact nI_clamp (by omega)
          obtain ⟨r1, r2, r3, r4⟩ := hrow j hjc
          rw [hn, r1, r2, r3, r4]
          exact Or.inr (Or.inr ⟨_, rfl, rfl⟩)
      · rw [if_neg (fun t => y (l3.mp t)), if_pos (Or.inr y)]; exact Or.inl ⟨rfl, rfl⟩
  unfold f_X8_look f_X9_look
  by_cases z : x1 = 0
  · simp only [z, if_true]
    exact key 0 co Lo oa ob od ok (by omega) h0 hco ho hLo (fun i hi => by rw [Nat.mul_zero, Nat.zero_add]; exact hO i hi) _ rfl
  · simp only [z, if_false]
    exact key 1 cq Lp pa pb pd pk (by omega) h1 hcq hp hLp (fun i hi => by rw [Nat.mul_one]; exact hP i hi) _ rfl
end LK
