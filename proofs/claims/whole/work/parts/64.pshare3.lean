/-! SHARE: one instruction, cleanly and in the class. -/
abbrev HV := (Nat → Nat) × Nat × VT
abbrev lw (hv : Nat → Nat) (v : Nat) : Option Nat := lwG hv v 8 0
def shA1 (hv : Nat → Nat) (k : Nat) (a : Int32) : Int32 := if raK k = true then oI (lw hv (hv (nN a))) else a
def shB1 (hv : Nat → Nat) (k : Nat) (b : Int32) : Int32 := if rbK k = true then oI (lw hv (hv (nN b))) else b
def tbK (k : Nat) : Bool := k == 1 || k == 3 || k == 4 || k == 5
def gx (hv : Nat → Nat) (k : Nat) (a b : Int32) : Int32 := if k = 1 then a else nI (if k = 4 then hv (nN a) else min (hv (nN a)) (hv (nN b)))
def gy (hv : Nat → Nat) (k : Nat) (a b : Int32) : Int32 := if k = 1 then 0 else nI (if k = 4 then hv (nN b) else max (hv (nN a)) (hv (nN b)))
def gV (s : HV) (k : Nat) (a b : Int32) : Nat := if tbK k = true then tvV s.2.2 s.2.1 k (gx s.1 k a b) (gy s.1 k a b) else if k = 2 then s.1 (nN a) else s.2.1
def gN (s : HV) (k : Nat) (a b : Int32) : Nat := if tbK k = true then tvN s.2.2 s.2.1 k (gx s.1 k a b) (gy s.1 k a b) else if k = 2 then s.2.1 else s.2.1 + 1
def gT (s : HV) (k : Nat) (a b : Int32) : VT := if tbK k = true then tvT s.2.2 s.2.1 k (gx s.1 k a b) (gy s.1 k a b) else s.2.2
def hdr (s : HV) (k : Nat) (g : Nat) : Option Nat := if onK k = true then lw s.1 g else none
/-- the value that the instruction gives, its reads replaced -/
def sg (s : HV) (k : Nat) (a b : Int32) : Nat := gV s k (shA1 s.1 k a) (shB1 s.1 k b)
def had (s : HV) (k : Nat) (d a b : Int32) : Bool := wrK k && onK k && s.1 (nN d) == sg s k a b
def shK (s : HV) (k : Nat) (d a b : Int32) : Nat := if had s k d a b = true then 0 else if wrK k = true ∧ (hdr s k (sg s k a b)).isSome = true then 2 else k
def shD (s : HV) (k : Nat) (d a b : Int32) : Int32 := if had s k d a b = true then 0 else d
def shA (s : HV) (k : Nat) (d a b : Int32) : Int32 := if had s k d a b = true then 0 else if wrK k = true ∧ (hdr s k (sg s k a b)).isSome = true then oI (hdr s k (sg s k a b)) else shA1 s.1 k a
def shB (s : HV) (k : Nat) (d a b : Int32) : Int32 := if had s k d a b = true then 0 else if wrK k = true ∧ (hdr s k (sg s k a b)).isSome = true then 0 else shB1 s.1 k b
def shC (s : HV) (k : Nat) (d a b : Int32) : Bool := !(shK s k d a b == k && decide (shD s k d a b = d) && decide (shA s k d a b = a) && decide (shB s k d a b = b))
def shN (s : HV) (k : Nat) (d a b : Int32) : HV := if wrK k = true then (fun r => if r = nN d then sg s k a b else s.1 r, gN s k (shA1 s.1 k a) (shB1 s.1 k b), gT s k (shA1 s.1 k a) (shB1 s.1 k b)) else s
def HOK (s : HV) : Prop := (∀ r, r < 8 → s.1 r < s.2.1) ∧ ∀ k x y v, s.2.2 k x y = some v → v < s.2.1
def SC (s : HV) (held eK eV eX eY : Nat → Int32) (m : Nat) : Prop := HOK s ∧ (∀ r, r < 8 → held r = nI (s.1 r)) ∧ RelT s.2.2 s.2.1 eK eV eX eY m
theorem lw_reg {hv : Nat → Nat} {r : Nat} (h : r < 8) : ∃ x, lw hv (hv r) = some x ∧ x < 8 ∧ hv x = hv r := by
  obtain ⟨x, h1, h2⟩ := lwG_ex (h := hv) 8 0 (Nat.zero_le r) (by omega) rfl
  exact ⟨x, h1, by omega, (lwG_some 8 0 h1).1⟩
theorem shA1_reg {hv : Nat → Nat} {k : Nat} {a : Int32} (hr : raK k = true) (ha : ∃ r, r < 8 ∧ a = nI r) : ∃ x, x < 8 ∧ shA1 hv k a = nI x ∧ hv x = hv (nN a) := by
  obtain ⟨r, h1, h2⟩ := ha
  obtain ⟨x, e1, e2, e3⟩ := lw_reg (hv := hv) h1
  refine ⟨x, e2, ?_, by rw [h2, nN_nI h1]; exact e3⟩
  unfold shA1
  rw [if_pos hr, h2, nN_nI h1, e1]
  rfl
theorem shB1_reg {hv : Nat → Nat} {k : Nat} {b : Int32} (hr : rbK k = true) (hb : ∃ r, r < 8 ∧ b = nI r) : ∃ x, x < 8 ∧ shB1 hv k b = nI x ∧ hv x = hv (nN b) := by
  obtain ⟨r, h1, h2⟩ := hb
  obtain ⟨x, e1, e2, e3⟩ := lw_reg (hv := hv) h1
  refine ⟨x, e2, ?_, by rw [h2, nN_nI h1]; exact e3⟩
  unfold shB1
  rw [if_pos hr, h2, nN_nI h1, e1]
  rfl
theorem oI_ne {r : Nat} (h : r < 8) : ¬ nI r = (-1 : Int32) := fun e => by
  have h1 : ¬ nI r < 0 := nI_pos (by omega)
  rw [e] at h1
  exact h1 (by decide)
section SH
variable {n L c i k m : Nat} {s : HV} {held eK eV eX eY fa fb fd fk : Nat → Int32}
theorem s_given2 {a b : Int32} (hn : 24 < n) (hs : SC s held eK eV eX eY m) (hm : m < 24) (hnv : s.2.1 < 1000) (hk : k < 15) (ha : k = 2 ∨ arK k = true → ∃ r, r < 8 ∧ a = nI r) (hb : arK k = true → ∃ r, r < 8 ∧ b = nI r) :
    ∃ eK' eV' eX' eY' m', f_X7_givenValue n eK eV eX eY held (nI m) (nI s.2.1) (nI k) a b = some (nI (gV s k a b), eK', eV', eX', eY', nI m', nI (gN s k a b)) ∧ RelT (gT s k a b) (gN s k a b) eK' eV' eX' eY' m' ∧ m' ≤ m + 1 := by
  have hT := hs.2.2
  unfold f_X7_givenValue
  simp only [ki1 hk, ki2 hk, ki3 hk, ki4 hk, ki5 hk]
  by_cases k1 : k = 1
  · subst k1
    obtain ⟨eK', eV', eX', eY', m', h1, h2, h3⟩ := s_table (k := 1) hn a 0 hm (by omega) hT
    rw [if_pos rfl, show (1 : Int32) = nI 1 from pn_1, h1]
    have e1 : gV s 1 a b = tvV s.2.2 s.2.1 1 a 0 := rfl
    have e2 : gN s 1 a b = tvN s.2.2 s.2.1 1 a 0 := rfl
    have e3 : gT s 1 a b = tvT s.2.2 s.2.1 1 a 0 := rfl
    rw [e1, e2, e3]
    exact ⟨_, _, _, _, _, rfl, h2, h3⟩
  rw [if_neg k1]
  by_cases k2 : k = 2
  · subst k2
    obtain ⟨r, h1, h2⟩ := ha (Or.inl rfl)
    rw [if_pos rfl, h2, pn_gd h1 (by omega), nI_clamp (by omega), hs.2.1 r h1]
    have e1 : gV s 2 (nI r) b = s.1 r := by show s.1 (nN (nI r)) = _; rw [nN_nI h1]
    have e2 : gN s 2 (nI r) b = s.2.1 := rfl
    have e3 : gT s 2 (nI r) b = s.2.2 := rfl
    rw [e1, e2, e3]
    exact ⟨_, _, _, _, _, rfl, hT, by omega⟩
  rw [if_neg k2]
  by_cases k345 : k = 3 ∨ k = 4 ∨ k = 5
  · have har : arK k = true := by unfold arK; simp; omega
    have htb : tbK k = true := by unfold tbK; simp; omega
    obtain ⟨ra, h1, h2⟩ := ha (Or.inr har)
    obtain ⟨rb, h3, h4⟩ := hb har
    have b1 := hs.1.1 ra h1
    have b2 := hs.1.1 rb h3
    have ga : ∀ {α : Type} {x : Option α}, gd (nI ra) 8 x = x := pn_gd h1 (by omega)
    have gb : ∀ {α : Type} {x : Option α}, gd (nI rb) 8 x = x := pn_gd h3 (by omega)
    have e1 : gV s k a b = tvV s.2.2 s.2.1 k (gx s.1 k a b) (gy s.1 k a b) := if_pos htb
    have e2 : gN s k a b = tvN s.2.2 s.2.1 k (gx s.1 k a b) (gy s.1 k a b) := if_pos htb
    have e3 : gT s k a b = tvT s.2.2 s.2.1 k (gx s.1 k a b) (gy s.1 k a b) := if_pos htb
    have ex : gx s.1 k a b = nI (if k = 4 then s.1 ra else min (s.1 ra) (s.1 rb)) := by unfold gx; rw [if_neg k1, h2, h4, nN_nI h1, nN_nI h3]
    have ey : gy s.1 k a b = nI (if k = 4 then s.1 rb else max (s.1 ra) (s.1 rb)) := by unfold gy; rw [if_neg k1, h2, h4, nN_nI h1, nN_nI h3]
    have emin : (if held rb < held ra then held rb else held ra) = nI (min (s.1 ra) (s.1 rb)) := by
      rw [hs.2.1 ra h1, hs.2.1 rb h3]
      by_cases z : s.1 rb < s.1 ra
      · rw [if_pos (nI_lt z (by omega)), Nat.min_eq_right (by omega)]
      · rw [if_neg (nI_nlt (by omega) (by omega)), Nat.min_eq_left (by omega)]
    have emax : (if held ra < held rb then held rb else held ra) = nI (max (s.1 ra) (s.1 rb)) := by
      rw [hs.2.1 ra h1, hs.2.1 rb h3]
      by_cases z : s.1 ra < s.1 rb
      · rw [if_pos (nI_lt z (by omega)), Nat.max_eq_right (by omega)]
      · rw [if_neg (nI_nlt (by omega) (by omega)), Nat.max_eq_left (by omega)]
    obtain ⟨eK', eV', eX', eY', m', t1, t2, t3⟩ := s_table (k := k) hn (gx s.1 k a b) (gy s.1 k a b) hm hk hT
    rw [e1, e2, e3]
    rw [ex, ey] at t1 t2 ⊢
    rw [h2, h4]
    simp only [ga, gb]
    rw [nI_clamp (show ra < 2 ^ 31 by omega), nI_clamp (show rb < 2 ^ 31 by omega), emin, emax, hs.2.1 ra h1, hs.2.1 rb h3]
    refine ⟨eK', eV', eX', eY', m', ?_, t2, t3⟩
    rcases k345 with z | z | z
    · subst z
      simp only [Nat.reduceEqDiff, if_false, if_true] at t1 ⊢
      rw [t1]
      rfl
    · subst z
      simp only [Nat.reduceEqDiff, if_false, if_true] at t1 ⊢
      have t1' : f_X7_tableValue n eK eV eX eY (nI m) (nI s.2.1) 4 (nI (s.1 ra)) (nI (s.1 rb)) = _ := t1
      rw [t1']
      rfl
    · subst z
      simp only [Nat.reduceEqDiff, if_false, if_true] at t1 ⊢
      rw [t1]
      rfl
  · have e1 : gV s k a b = s.2.1 := by unfold gV; rw [if_neg (by unfold tbK; simp; omega), if_neg k2]
    have e2 : gN s k a b = s.2.1 + 1 := by unfold gN; rw [if_neg (by unfold tbK; simp; omega), if_neg k2]
    have e3 : gT s k a b = s.2.2 := by unfold gT; rw [if_neg (by unfold tbK; simp; omega)]
    rw [if_neg (by omega), if_neg (by omega), if_neg (by omega), e1, e2, e3]
    unfold f_X7_newValue
    simp only [Option.bind_some]
    rw [pn_sp, pn_s]
    refine ⟨_, _, _, _, m, rfl, ⟨fun k x y v h => ?_, hT.2⟩, by omega⟩
    obtain ⟨a1, a2, a3⟩ := hT.1 k x y v h
    exact ⟨a1, by omega, a3⟩
end SH
