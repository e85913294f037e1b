/-! PURE SIDE: take, both sides. -/
theorem pn_199 : (199 : Int32) = nI 199 := by decide +kernel
theorem pn_9 : (9 : Int32) = nI 9 := by decide +kernel
theorem pn_12 : (12 : Int32) = nI 12 := by decide +kernel
/-- the draft is a program -/
def whF (kp : Nat → Nat) (fd : Nat → Int32) (c : Nat) : Bool := match c with
  | 0 => false
  | m + 1 => (kp m == 9 || kp m == 12) && okF kp fd (m + 1) (m + 1) 0
theorem s_isWhole {n L c : Nat} {fd fk : Nat → Int32} {kp : Nat → Nat} (hcL : c ≤ L) (hL : L < 2 ^ 31) (hk : ∀ i, i < c → fk i = nI (kp i) ∧ kp i < 15) (hn : c < n) : f_X6_isWhole n L fd fk (nI c) = some (b2i (whF kp fd c)) := by
  unfold f_X6_isWhole
  cases c with
  | zero => rw [if_pos nI_0]; rfl
  | succ m =>
    have hm := hk m (by omega)
    have hcl : (nI m).toNatClampNeg = m := nI_clamp (by omega)
    have h43 := s_whole43 (n := n) (fd := fd) hcL hL hk n 0 (by omega) (by omega)
    rw [Nat.sub_zero, ← pn_0] at h43
    rw [if_neg (nI_ne0 (by omega) (by omega)), pn_p]
    simp only [pn_gd (show m < L by omega) hL, hcl, hm.1, h43, whF]
    by_cases h9 : kp m = 9
    · rw [if_pos (by rw [h9]; decide +kernel), h9]
      simp
    · rw [if_neg (fun e => h9 ((nI_eq (by omega) (by decide)).mp (e.trans pn_9)))]
      by_cases h12 : kp m = 12
      · rw [if_pos (by rw [h12]; decide +kernel), h12]
        simp
      · rw [if_neg (fun e => h12 ((nI_eq (by omega) (by decide)).mp (e.trans pn_12)))]
        simp [h9, h12, b2i]
theorem m_take_eq {n c : Nat} {fa fb fd fk fs gd9 : Nat → Int32} {v tk al : Int32} {kp : Nat → Nat} (hs : fs 2 = nI c) (hc : c ≤ 24) (hk : ∀ i, i < c → fk (200 + i) = nI (kp i) ∧ kp i < 15) (hd : ∀ i, i < c → fd (200 + i) = gd9 i) (hn : c < n) :
    f_X9_take n fa fb fd fk fs v tk al = mtk n fa fb fd fk fs v tk al c (whF kp gd9 c) := by
  have hcl : (nI 2).toNatClampNeg = 2 := nI_clamp (by decide)
  have h37 := fun g => m_take37 (n := n) (fa := fa) (fb := fb) (fs := fs) (v := v) (tk := tk) (al := al) hc hk hd n 0 g (by omega) (by omega)
  rw [Nat.sub_zero, Nat.add_zero, ← pn_200] at h37
  have g0 : f_X9_take_37 n n fa fb fd fk fs v tk al (nI c) 0 200 = mtk n fa fb fd fk fs v tk al c false := h37 false
  have g1 : f_X9_take_37 n n fa fb fd fk fs v tk al (nI c) 1 200 = mtk n fa fb fd fk fs v tk al c (okF kp gd9 c c 0) := h37 true
  unfold f_X9_take
  simp only [pn_2, pn_gd (show 2 < 4 by decide) (show 4 < 2 ^ 31 by decide), hcl, hs]
  cases c with
  | zero => rw [if_pos (by decide +kernel)]; exact g0
  | succ m =>
    have hm := hk m (by omega)
    have hcl2 : (nI (200 + m)).toNatClampNeg = 200 + m := nI_clamp (by omega)
    rw [if_neg (nI_nle (by omega) (by omega)), pn_199, nI_add, show 199 + (m + 1) = 200 + m by omega, pn_gd (show 200 + m < 400 by omega) (show 400 < 2 ^ 31 by decide), hcl2, hm.1, m_falls _ hm.2]
    simp only [Option.bind_some, g0, g1, whF]
    have e : faK (kp m) = !(kp m == 9 || kp m == 12) := by
      unfold faK
      cases (kp m == 9) <;> cases (kp m == 12) <;> rfl
    rw [e]
    cases (kp m == 9 || kp m == 12) <;> rfl
