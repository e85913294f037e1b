/-! FOLD: the states, their measure, one flow. -/
def smN (f : Nat → Nat) : Nat → Nat
  | 0 => 0
  | n + 1 => smN f n + f n
theorem smN_le {f g : Nat → Nat} : ∀ (n : Nat), (∀ i, i < n → f i ≤ g i) → smN f n ≤ smN g n
  | 0, _ => Nat.le_refl _
  | n + 1, h => Nat.add_le_add (smN_le n (fun i hi => h i (by omega))) (h n (by omega))
theorem smN_lt {f g : Nat → Nat} : ∀ (n : Nat) {j : Nat}, (∀ i, i < n → f i ≤ g i) → j < n → f j < g j → smN f n < smN g n
  | 0, j, _, h, _ => by omega
  | n + 1, j, h, hj, hl => by
    show smN f n + f n < smN g n + g n
    by_cases e : j = n
    · subst e
      have := smN_le j (fun i hi => h i (Nat.lt_succ_of_lt hi))
      omega
    · have := smN_lt n (fun i hi => h i (Nat.lt_succ_of_lt hi)) (show j < n by omega) hl
      have := h n (by omega)
      omega
theorem smN_bd {f : Nat → Nat} {b : Nat} : ∀ (n : Nat), (∀ i, i < n → f i ≤ b) → smN f n ≤ b * n
  | 0, _ => Nat.le_refl _
  | n + 1, h => by
    have h1 := smN_bd n (fun i hi => h i (Nat.lt_succ_of_lt hi))
    have h2 := h n (by omega)
    show smN f n + f n ≤ b * (n + 1)
    rw [Nat.mul_succ]
    omega
abbrev RQ := Nat → Option Int32
abbrev FS := Nat → Option RQ
def jn (p q : RQ) : RQ := fun r => if p r = q r then p r else none
def cm (S : FS) (t : Nat) (q : RQ) : FS := fun j => if j = t then some (match S t with | none => q | some p => jn p q) else S j
def pst (q : RQ) (k : Nat) (d a b : Int32) : RQ := if wrK k = true then (fun r => if r = nN d then gv q k a b else q r) else q
def Tq (q : RQ) : Prop := ∀ r, 8 ≤ r → q r = none
def TS (S : FS) : Prop := ∀ i q, S i = some q → Tq q
def wq (q : RQ) : Nat := smN (fun r => if (q r).isSome = true then 1 else 0) 8
def wt : Option RQ → Nat
  | none => 9
  | some q => wq q
def mu (S : FS) : Nat := smN (fun i => wt (S i)) 26
theorem wq_8 (q : RQ) : wq q ≤ 8 := smN_bd (b := 1) 8 (fun i _ => by split <;> omega)
theorem wt_9 (x : Option RQ) : wt x ≤ 9 := by
  cases x with
  | none => exact Nat.le_refl _
  | some q => exact Nat.le_trans (wq_8 q) (by omega)
theorem mu_bd (S : FS) : mu S ≤ 234 := smN_bd (b := 9) 26 (fun i _ => wt_9 _)
theorem jn_some {p q : RQ} {r : Nat} {v : Int32} (h : jn p q r = some v) : p r = some v ∧ q r = some v := by
  unfold jn at h
  by_cases e : p r = q r
  · rw [if_pos e] at h; exact ⟨h, e ▸ h⟩
  · rw [if_neg e] at h; cases h
theorem jn_T {p : RQ} (q : RQ) (h : Tq p) : Tq (jn p q) := fun r hr => by
  unfold jn
  split
  · exact h r hr
  · rfl
theorem jn_w (p q : RQ) : wq (jn p q) ≤ wq p := smN_le 8 (fun i _ => by
  cases e : jn p q i with
  | none => exact Nat.zero_le _
  | some v => rw [(jn_some e).1]; exact Nat.le_refl _)
theorem jn_lt {p q : RQ} (hp : Tq p) (h : ¬ jn p q = p) : (∃ r, r < 8 ∧ (jn p q r).isSome = false ∧ (p r).isSome = true) ∧ wq (jn p q) < wq p := by
  have : ∃ r, r < 8 ∧ (jn p q r).isSome = false ∧ (p r).isSome = true := by
    refine Classical.byContradiction (fun hn => h ?_)
    funext r
    by_cases hr : r < 8
    · cases e : jn p q r with
      | some v => exact (jn_some e).1.symm
      | none => cases e2 : p r with
        | none => rfl
        | some v => exact absurd ⟨r, hr, by rw [e]; rfl, by rw [e2]; rfl⟩ hn
    · rw [hp r (by omega), jn_T q hp r (by omega)]
  refine ⟨this, ?_⟩
  obtain ⟨r, hr, h1, h2⟩ := this
  refine smN_lt 8 (j := r) (fun i _ => ?_) hr ?_
  · cases e : jn p q i with
    | none => exact Nat.zero_le _
    | some v => rw [(jn_some e).1]; exact Nat.le_refl _
  · rw [h1, h2]; decide
theorem cm_T {S : FS} {t : Nat} {q : RQ} (hS : TS S) (hq : Tq q) : TS (cm S t q) := fun i x h => by
  unfold cm at h
  by_cases e : i = t
  · rw [if_pos e] at h
    cases e2 : S t with
    | none => rw [e2] at h; cases h; exact hq
    | some p => rw [e2] at h; cases h; exact jn_T q (hS t p e2)
  · rw [if_neg e] at h; exact hS i x h
theorem cm_mu {S : FS} {t : Nat} {q : RQ} (hS : TS S) (ht : t < 26) : cm S t q = S ∨ mu (cm S t q) < mu S := by
  by_cases e : cm S t q = S
  · exact Or.inl e
  · refine Or.inr (smN_lt 26 (j := t) (fun i _ => ?_) ht ?_)
    · show wt (cm S t q i) ≤ _
      unfold cm
      by_cases e2 : i = t
      · rw [if_pos e2, e2]
        cases e3 : S t with
        | none => exact Nat.le_trans (wq_8 _) (by decide)
        | some p => exact jn_w p q
      · rw [if_neg e2]; exact Nat.le_refl _
    · show wt (cm S t q t) < _
      unfold cm
      rw [if_pos rfl]
      cases e3 : S t with
      | none => exact Nat.lt_of_le_of_lt (wq_8 _) (by decide)
      | some p =>
        refine (jn_lt (hS t p e3) (fun e4 => e ?_)).2
        funext j
        unfold cm
        by_cases e5 : j = t
        · rw [if_pos e5, e5, e3]; show some (jn p q) = some p; rw [e4]
        · rw [if_neg e5]
theorem cm_le {S : FS} {t : Nat} {q : RQ} (hS : TS S) (ht : t < 26) : mu (cm S t q) ≤ mu S := by
  rcases cm_mu (q := q) hS ht with h | h
  · rw [h]; exact Nat.le_refl _
  · exact Nat.le_of_lt h
/-- what the class's rows hold of a state -/
def RelC (c : Nat) (S : FS) (kn nu re : Nat → Int32) : Prop := ∀ i, i < c → match S i with
  | none => re i = 0
  | some q => re i = 1 ∧ RowC q (kn i) nu i
/-- a changed-flag beside the state at a round's start -/
def CU (c : Nat) (S0 : FS) (ch : Int32) (S : FS) : Prop := mu S ≤ mu S0 ∧ ((ch = 0 ∧ ∀ j, j < c → S j = S0 j) ∨ (ch = 1 ∧ mu S < mu S0))
theorem s_same4 (n : Nat) {fl nu : Nat → Int32} {t : Nat} (ht : t < 24) : ∀ (k j : Nat) (x : Int32), j ≤ 8 → 8 - j < k → IsBs x (fun r => decide (r < j) && decide (nu (t * 8 + r) = fl r)) →
    ∃ u, f_X1_sameNumbers_4 n k fl nu (nI t) x (nI j) = some u ∧ IsBs u (fun r => decide (nu (t * 8 + r) = fl r)) := by
  intro k
  induction k with
  | zero => intro j x h1 h2; omega
  | succ k ih =>
    intro j x hj hk hx
    rw [f_X1_sameNumbers_4]
    by_cases e : j = 8
    · rw [if_pos ((le8 (by omega)).mpr (by omega))]
      exact ⟨x, rfl, bs_cong hx (fun r hr => by simp [show r < j by omega])⟩
    · have hlt : j < 8 := by omega
      rw [if_neg (fun z => e (by have := (le8 (by omega)).mp z; omega)), pn_m8, nI_add, pn_gd (by omega) (by omega), pn_gd hlt (by omega), nI_clamp (by omega), nI_clamp (by omega), pn_s]
      by_cases q : nu (t * 8 + j) = fl j
      · rw [if_pos q]
        refine ih (j + 1) _ (by omega) (by omega) (bs_cong (bs_or hx (bs_1 hlt)) (fun r hr => ?_))
        by_cases e2 : r = j
        · subst e2; simp [q]
        · by_cases e3 : r < j
          · simp [e3, show r < j + 1 by omega, e2]
          · simp [e3, show ¬ r < j + 1 by omega, e2]
      · rw [if_neg q]
        refine ih (j + 1) _ (by omega) (by omega) (bs_cong hx (fun r hr => ?_))
        by_cases e2 : r = j
        · subst e2; simp [q]
        · by_cases e3 : r < j
          · simp [e3, show r < j + 1 by omega]
          · simp [e3, show ¬ r < j + 1 by omega]
theorem s_same {n : Nat} (hn : 8 < n) {fl nu : Nat → Int32} {t : Nat} (ht : t < 24) : ∃ u, f_X1_sameNumbers n fl nu (nI t) = some u ∧ IsBs u (fun r => decide (nu (t * 8 + r) = fl r)) :=
  s_same4 n ht n 0 0 (by omega) (by omega) (bs_cong bs_0 (fun r _ => by simp))
theorem s_flowNo (n : Nat) (fl kn nu re : Nat → Int32) (fk ch : Int32) : f_X1_flowTo n fl kn nu re fk ch (-1) = some (kn, nu, re, ch) := by
  unfold f_X1_flowTo
  rw [if_pos rfl]
theorem ch_0 {c : Nat} {S0 : FS} {ch : Int32} {S : FS} (h : CU c S0 ch S) : ch = 0 ∨ ch = 1 := by
  rcases h.2 with h | h
  · exact Or.inl h.1
  · exact Or.inr h.1
theorem s_flowTo {n c : Nat} (hn : 8 < n) (hc : c ≤ 24) {S S0 : FS} {fl kn nu re : Nat → Int32} {fk ch : Int32} {q : RQ} {t : Nat} (ht : t < c) (hS : TS S) (hR : RelC c S kn nu re) (hb : IsBs fk (fun r => (q r).isSome)) (hfl : ∀ r, r < 8 → ∀ v, q r = some v → fl r = v) (hU : CU c S0 ch S) :
    ∃ kn' nu' re' ch', f_X1_flowTo n fl kn nu re fk ch (nI t) = some (kn', nu', re', ch') ∧ RelC c (cm S t q) kn' nu' re' ∧ CU c S0 ch' (cm S t q) := by
  have g24 : ∀ {α : Type} {x : Option α}, gd (nI t) 24 x = x := pn_gd (by omega) (by omega)
  have hm1 : ¬ nI t = (-1 : Int32) := fun e => by
    have h1 : ¬ nI t < 0 := nI_pos (by omega)
    rw [e] at h1
    exact h1 (by decide)
  have hmu := cm_mu (q := q) hS (show t < 26 by omega)
  have hle : mu (cm S t q) ≤ mu S0 := Nat.le_trans (cm_le hS (by omega)) hU.1
  unfold f_X1_flowTo
  rw [if_neg hm1]
  simp only [g24]
  rw [nI_clamp (by omega), pn_m8, nI_clamp (show t * 8 < 2 ^ 31 by omega)]
  have hRt := hR t ht
  cases e : S t with
  | none =>
    rw [e] at hRt
    have hRt : re t = 0 := hRt
    rw [if_pos hRt, gc_in ⟨by decide, nI_pos (by omega), by decide, by decide, by rw [nI_clamp (by omega)]; show t * 8 + 8 ≤ 192; omega⟩, nb_v (Or.inr rfl)]
    refine ⟨_, _, _, _, rfl, ?_, hle, Or.inr ⟨rfl, ?_⟩⟩
    · intro i hi
      unfold cm
      by_cases e2 : i = t
      · subst e2
        rw [if_pos rfl, e]
        refine ⟨upd_s _ _ _, ?_, ?_⟩
        · rw [upd_s]; exact hb
        · intro r hr v hv
          show va_cpy fl nu 0 (i * 8) 8 (i * 8 + r) = v
          rw [pk_cpy_in (by omega) (by omega)]
          have : 0 + (i * 8 + r - i * 8) = r := by omega
          rw [this]
          exact hfl r hr v hv
      · rw [if_neg e2, upd_n _ e2, upd_n _ e2]
        have := hR i hi
        cases e3 : S i with
        | none => rw [e3] at this; exact this
        | some p =>
          rw [e3] at this
          refine ⟨this.1, this.2.1, fun r hr v hv => ?_⟩
          show va_cpy fl nu 0 (t * 8) 8 (i * 8 + r) = v
          rw [pk_cpy_out (by omega)]
          exact this.2.2 r hr v hv
    · rcases hmu with h | h
      · exfalso
        have h2 := congrFun h t
        unfold cm at h2
        rw [if_pos rfl, e] at h2
        cases h2
      · exact Nat.lt_of_lt_of_le h hU.1
  | some p =>
    rw [e] at hRt
    have hRt : re t = 1 ∧ RowC p (kn t) nu t := hRt
    rw [if_neg (by rw [hRt.1]; decide)]
    obtain ⟨u, hu, hub⟩ := s_same hn (fl := fl) (nu := nu) (show t < 24 by omega)
    rw [hu]
    simp only [Option.bind_some]
    have hag : IsBs ((kn t &&& fk) &&& u) (fun r => (jn p q r).isSome) := bs_cong (bs_and (bs_and hRt.2.1 hb) hub) (fun r hr => by
      unfold jn
      cases e1 : p r with
      | none => cases e2 : q r <;> rfl
      | some v => cases e2 : q r with
        | none => rfl
        | some w =>
          rw [hRt.2.2 r hr v e1, hfl r hr w e2]
          by_cases z : v = w
          · subst z; simp
          · simp [z])
    have hTp := hS t p e
    have hcm : jn p q = p → cm S t q = S := fun e4 => by
      funext j
      unfold cm
      by_cases e5 : j = t
      · rw [if_pos e5, e5, e]; show some (jn p q) = some p; rw [e4]
      · rw [if_neg e5]
    have hrel : RelC c (cm S t q) (upd kn t ((kn t &&& fk) &&& u)) nu re := by
      intro i hi
      unfold cm
      by_cases e2 : i = t
      · subst e2
        rw [if_pos rfl, e]
        refine ⟨hRt.1, ?_, fun r hr v hv => hRt.2.2 r hr v (jn_some hv).1⟩
        rw [upd_s]; exact hag
      · rw [if_neg e2, upd_n _ e2]
        exact hR i hi
    have heq : ((kn t &&& fk) &&& u = kn t) ↔ jn p q = p := by
      rw [bs_inj hag hRt.2.1]
      constructor
      · intro h
        refine Classical.byContradiction (fun hn => ?_)
        obtain ⟨r, hr, h1, h2⟩ := (jn_lt hTp hn).1
        have := h r hr
        rw [h1, h2] at this
        cases this
      · intro h r _
        rw [h]
    unfold f_X1_flowTo_97
    by_cases z : ch = 0
    · rw [if_pos z]
      by_cases z2 : (kn t &&& fk) &&& u = kn t
      · rw [if_pos z2, gb_in (Or.inl rfl)]
        simp only [g24]
        refine ⟨_, _, _, _, rfl, by rw [nI_clamp (by omega)]; exact hrel, hle, Or.inl ⟨rfl, ?_⟩⟩
        rw [hcm (heq.mp z2)]
        rcases hU.2 with h | h
        · exact h.2
        · rw [h.1] at z; exact absurd z (by decide)
      · rw [if_neg z2, gb_in (Or.inr rfl)]
        simp only [g24]
        refine ⟨_, _, _, _, rfl, by rw [nI_clamp (by omega)]; exact hrel, hle, Or.inr ⟨rfl, ?_⟩⟩
        rcases hmu with h | h
        · refine absurd (heq.mpr ?_) z2
          have h2 := congrFun h t
          unfold cm at h2
          rw [if_pos rfl, e] at h2
          exact Option.some.inj h2
        · exact Nat.lt_of_lt_of_le h hU.1
    · rw [if_neg z, gb_in (Or.inr rfl)]
      simp only [g24]
      refine ⟨_, _, _, _, rfl, by rw [nI_clamp (by omega)]; exact hrel, hle, Or.inr ⟨rfl, ?_⟩⟩
      rcases hU.2 with h | h
      · exact absurd h.1 z
      · exact Nat.lt_of_le_of_lt (cm_le hS (by omega)) h.2
