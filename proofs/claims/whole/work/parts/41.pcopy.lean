/-! PURE SIDE: the reference's rows of programs. -/
theorem pn_100 : (100 : Int32) = nI 100 := by decide +kernel
theorem pn_m (a b : Nat) : nI a * nI b = nI (a * b) := pk_mul a b
section MPR
variable {fa fb fd fk fs : Nat → Int32}
theorem m_put {i : Nat} (hi : i < 400) (k d a b : Int32) : f_X9_put fa fb fd fk (nI i) k d a b = some (upd fa i a, upd fb i b, upd fd i d, upd fk i k) := by
  have hc : (nI i).toNatClampNeg = i := nI_clamp (by omega)
  unfold f_X9_put
  simp only [pn_gd hi (by decide), hc]
theorem m_append {p c : Nat} (hp : p < 4) (hs : fs p = nI c) (hc : c < 100) (k d a b : Int32) : f_X9_append fa fb fd fk fs (nI p) k d a b = some (upd fa (100 * p + c) a, upd fb (100 * p + c) b, upd fd (100 * p + c) d, upd fk (100 * p + c) k, upd fs p (nI (c + 1))) := by
  have hcl : (nI p).toNatClampNeg = p := nI_clamp (by omega)
  unfold f_X9_append
  simp only [pn_gd hp (by decide), hcl, hs]
  rw [pn_100, pn_m, nI_add, m_put (by omega)]
  simp only [Option.bind_some, pn_s]
theorem m_copy12 (n : Nat) {p q c : Nat} (hp : p < 4) (hq : q < 4) (hpq : p ≠ q) (hs : fs p = nI c) (hc : c ≤ 100) : ∀ (k j : Nat), j ≤ c → c - j < k →
    f_X9_copy_12 n k (va_cpy fa fa (100 * p) (100 * q) j) (va_cpy fb fb (100 * p) (100 * q) j) (va_cpy fd fd (100 * p) (100 * q) j) (va_cpy fk fk (100 * p) (100 * q) j) (upd fs q (nI j)) (nI p) (nI q) (nI (100 * p + j)) = some (va_cpy fa fa (100 * p) (100 * q) c, va_cpy fb fb (100 * p) (100 * q) c, va_cpy fd fd (100 * p) (100 * q) c, va_cpy fk fk (100 * p) (100 * q) c, upd fs q (nI c)) := by
  intro k
  induction k with
  | zero => intro j h1 h2; omega
  | succ k ih =>
    intro j hj hk
    have hcl : (nI p).toNatClampNeg = p := nI_clamp (by omega)
    have hcj : (nI (100 * p + j)).toNatClampNeg = 100 * p + j := nI_clamp (by omega)
    have hsz : upd fs q (nI j) p = nI c := by rw [upd_n _ hpq, hs]
    rw [f_X9_copy_12]
    simp only [pn_gd hp (by decide), hcl, hsz]
    rw [pn_100, pn_m, nI_add]
    by_cases e : j = c
    · subst e
      rw [if_pos (nI_le (Nat.le_refl _) (by omega))]
    · have hlt : j < c := by omega
      rw [if_neg (nI_ge (by omega) (by omega))]
      simp only [pn_gd (show 100 * p + j < 400 by omega) (by decide), hcj]
      have rd : ∀ f : Nat → Int32, va_cpy f f (100 * p) (100 * q) j (100 * p + j) = f (100 * p + j) := fun f => pk_cpy_out (by omega)
      rw [rd, rd, rd, rd, m_append hq (upd_s _ _ _) (by omega)]
      simp only [Option.bind_some, pn_s]
      rw [cpy_s, cpy_s, cpy_s, cpy_s]
      have e2 : upd (upd fs q (nI j)) q (nI (j + 1)) = upd fs q (nI (j + 1)) := by
        funext z
        by_cases hz : z = q
        · subst hz; rw [upd_s, upd_s]
        · rw [upd_n _ hz, upd_n _ hz, upd_n _ hz]
      rw [e2]
      exact ih (j + 1) (by omega) (by omega)
theorem m_copy {n p q c : Nat} (hp : p < 4) (hq : q < 4) (hpq : p ≠ q) (hs : fs p = nI c) (hc : c ≤ 100) (hn : c < n) :
    f_X9_copy n fa fb fd fk fs (nI p) (nI q) = some (va_cpy fa fa (100 * p) (100 * q) c, va_cpy fb fb (100 * p) (100 * q) c, va_cpy fd fd (100 * p) (100 * q) c, va_cpy fk fk (100 * p) (100 * q) c, upd fs q (nI c)) := by
  have hcl : (nI q).toNatClampNeg = q := nI_clamp (by omega)
  have h := m_copy12 (fa := fa) (fb := fb) (fd := fd) (fk := fk) n hp hq hpq hs hc n 0 (by omega) (by omega)
  rw [cpy_0, cpy_0, cpy_0, cpy_0, Nat.add_zero] at h
  unfold f_X9_copy
  simp only [pn_gd hq (by decide), hcl]
  rw [pn_100, pn_m, pn_0]
  exact h
end MPR
