/-! PURE SIDE: the ends of take, restore. -/
theorem m_take_no {n c : Nat} {fa fb fd fk fs : Nat → Int32} {v tk al : Int32} : mtk n fa fb fd fk fs v tk al c false = some (0, fa, fb, fd, fk, upd fs 2 0, 1, tk, al) := by
  have hcl : (2 : Int32).toNatClampNeg = 2 := by decide +kernel
  have hg : ∀ {α : Type} (k : Option α), gd (2 : Int32) 4 k = k := fun k => pn_gd (i := 2) (by decide) (by decide)
  unfold mtk
  rw [if_pos b2i_f]
  unfold f_X9_take_94
  rw [hg, if_pos b2i_f, hcl]
  rfl
theorem m_take_ok {n c : Nat} {fa fb fd fk fs : Nat → Int32} {v tk al : Int32} (hs : fs 2 = nI c) (hc : c ≤ 24) (hn : c < n) :
    mtk n fa fb fd fk fs v tk al c true = some (nI c, va_cpy (va_cpy fa fa 200 0 c) (va_cpy fa fa 200 0 c) 0 100 c, va_cpy (va_cpy fb fb 200 0 c) (va_cpy fb fb 200 0 c) 0 100 c, va_cpy (va_cpy fd fd 200 0 c) (va_cpy fd fd 200 0 c) 0 100 c, va_cpy (va_cpy fk fk 200 0 c) (va_cpy fk fk 200 0 c) 0 100 c, upd (upd (upd fs 0 (nI c)) 2 0) 1 (nI c), 0, 1, 0) := by
  have hcl : (2 : Int32).toNatClampNeg = 2 := by decide +kernel
  have hg : ∀ {α : Type} (k : Option α), gd (2 : Int32) 4 k = k := fun k => pn_gd (i := 2) (by decide) (by decide)
  have z1 : ¬ b2i true = 0 := by decide
  have h1 : f_X9_copy n fa fb fd fk fs (2 : Int32) (0 : Int32) = some (va_cpy fa fa 200 0 c, va_cpy fb fb 200 0 c, va_cpy fd fd 200 0 c, va_cpy fk fk 200 0 c, upd fs 0 (nI c)) := m_copy (p := 2) (q := 0) (by decide) (by decide) (by decide) hs (by omega) hn
  have hs2 : upd (upd fs 0 (nI c)) 2 0 0 = nI c := by rw [upd_n _ (by decide), upd_s]
  have h2 : f_X9_copy n (va_cpy fa fa 200 0 c) (va_cpy fb fb 200 0 c) (va_cpy fd fd 200 0 c) (va_cpy fk fk 200 0 c) (upd (upd fs 0 (nI c)) 2 0) (0 : Int32) (1 : Int32) = some (va_cpy (va_cpy fa fa 200 0 c) (va_cpy fa fa 200 0 c) 0 100 c, va_cpy (va_cpy fb fb 200 0 c) (va_cpy fb fb 200 0 c) 0 100 c, va_cpy (va_cpy fd fd 200 0 c) (va_cpy fd fd 200 0 c) 0 100 c, va_cpy (va_cpy fk fk 200 0 c) (va_cpy fk fk 200 0 c) 0 100 c, upd (upd (upd fs 0 (nI c)) 2 0) 1 (nI c)) := m_copy (p := 0) (q := 1) (by decide) (by decide) (by decide) hs2 (by omega) hn
  unfold mtk
  rw [if_neg z1, h1]
  simp only [Option.bind_some]
  unfold f_X9_take_94
  rw [hg, if_neg z1, hcl]
  unfold f_X9_take_111
  rw [show f_X9_throwing v (0 : Int32) (0 : Int32) = some (0, 0) from rfl]
  simp only [Option.bind_some, if_pos, h2]
section PT3
variable {n L0 L1 L2 c : Nat} {da db dd dk oa ob od ok pa pb pd pk : Nat → Int32} {kp : Nat → Nat}
theorem s_take_ok (hL0 : c ≤ L0) (hL1 : c ≤ L1) (hL2 : c ≤ L2) (h0 : L0 < 2 ^ 31) (h1 : L1 < 2 ^ 31) (h2 : L2 < 2 ^ 31) (hk : ∀ i, i < c → dk i = nI (kp i) ∧ kp i < 15) (hn : c < n) (hw : whF kp dd c = true) (tk al vo vp : Int32) :
    f_X8_take n L0 L1 L2 da db dd dk oa ob od ok pa pb pd pk tk al (nI c) vo vp = some (0, nI c, va_cpy da oa 0 0 c, va_cpy db ob 0 0 c, va_cpy dd od 0 0 c, va_cpy dk ok 0 0 c, va_cpy da pa 0 0 c, va_cpy db pb 0 0 c, va_cpy dd pd 0 0 c, va_cpy dk pk 0 0 c, 1, 0, 0, nI c, nI c) := by
  unfold f_X8_take
  rw [s_isWhole hL0 h0 hk hn, hw]
  simp only [Option.bind_some, if_neg (show ¬ b2i true = 0 by decide)]
  rw [s_copyFrom da db dd dk vo hL1 hL0 h1 h0 hn]
  simp only [Option.bind_some]
  rw [s_copyFrom da db dd dk vp hL2 hL0 h2 h0 hn]
  rfl
theorem s_take_no (hL0 : c ≤ L0) (h0 : L0 < 2 ^ 31) (hk : ∀ i, i < c → dk i = nI (kp i) ∧ kp i < 15) (hn : c < n) (hw : whF kp dd c = false) (tk al vo vp : Int32) :
    f_X8_take n L0 L1 L2 da db dd dk oa ob od ok pa pb pd pk tk al (nI c) vo vp = some (1, 0, oa, ob, od, ok, pa, pb, pd, pk, tk, al, 0, vo, vp) := by
  unfold f_X8_take
  rw [s_isWhole hL0 h0 hk hn, hw]
  rfl
theorem s_restore_no (al vo vp : Int32) : f_X8_restore n L1 L2 oa ob od ok pa pb pd pk 0 al vo vp = some (2, pa, pb, pd, pk, al, vp) := rfl
theorem s_restore_ok (hL1 : c ≤ L1) (hL2 : c ≤ L2) (h1 : L1 < 2 ^ 31) (h2 : L2 < 2 ^ 31) (hn : c < n) (al vp : Int32) : f_X8_restore n L1 L2 oa ob od ok pa pb pd pk 1 al (nI c) vp = some (0, va_cpy oa pa 0 0 c, va_cpy ob pb 0 0 c, va_cpy od pd 0 0 c, va_cpy ok pk 0 0 c, 0, nI c) := by
  unfold f_X8_restore
  rw [if_neg (by decide), s_copyFrom oa ob od ok vp hL2 hL1 h2 h1 hn]
  rfl
end PT3
theorem m_restore_no {n : Nat} {fa fb fd fk fs : Nat → Int32} (v al : Int32) : f_X9_restore n fa fb fd fk fs v 0 al = some (fa, fb, fd, fk, fs, 1, al) := rfl
theorem m_restore_ok {n c : Nat} {fa fb fd fk fs : Nat → Int32} (v al : Int32) (hs : fs 0 = nI c) (hc : c ≤ 100) (hn : c < n) : f_X9_restore n fa fb fd fk fs v 1 al = some (va_cpy fa fa 0 100 c, va_cpy fb fb 0 100 c, va_cpy fd fd 0 100 c, va_cpy fk fk 0 100 c, upd fs 1 (nI c), 0, 0) := by
  have h1 : f_X9_copy n fa fb fd fk fs (0 : Int32) (1 : Int32) = some (va_cpy fa fa 0 100 c, va_cpy fb fb 0 100 c, va_cpy fd fd 0 100 c, va_cpy fk fk 0 100 c, upd fs 1 (nI c)) := m_copy (p := 0) (q := 1) (by decide) (by decide) (by decide) hs hc hn
  unfold f_X9_restore
  rw [if_neg (by decide)]
  unfold f_X9_restore_13
  rw [show f_X9_throwing v (0 : Int32) (0 : Int32) = some (0, 0) from rfl]
  simp only [Option.bind_some, if_pos, h1]
