/-! PURE SIDE: numbers, guards, kinds, programs. -/
theorem pn_gd {α : Type} {i n : Nat} {k : Option α} (h : i < n) (hn : n < 2 ^ 31) : gd (nI i) n k = k := gd_in (vp_in_nI h hn)
theorem pn_s (i : Nat) : nI i + (1 : Int32) = nI (i + 1) := nI_1 i
theorem pn_p (i : Nat) : nI (i + 1) - (1 : Int32) = nI i := nI_pred i
theorem pn_0 : (0 : Int32) = nI 0 := by decide +kernel
theorem pn_1 : (1 : Int32) = nI 1 := by decide +kernel
theorem pn_sp (i : Nat) : nI i + (1 : Int32) - (1 : Int32) = nI i := by rw [pn_s, pn_p]
theorem upd_s (f : Nat → Int32) (k : Nat) (x : Int32) : upd f k x k = x := pk_us
theorem upd_n {f : Nat → Int32} {k j : Nat} (x : Int32) (h : j ≠ k) : upd f k x j = f j := pk_un h
/-- one more place of a copied stretch -/
theorem cpy_s (f g : Nat → Int32) (sp dp n : Nat) : upd (va_cpy f g sp dp n) (dp + n) (f (sp + n)) = va_cpy f g sp dp (n + 1) := by
  funext j
  by_cases h : j = dp + n
  · subst h
    rw [upd_s, pk_cpy_in (by omega) (by omega)]
    congr 1
    omega
  · rw [upd_n _ h]
    by_cases h1 : dp ≤ j ∧ j < dp + n
    · rw [pk_cpy_in h1.1 h1.2, pk_cpy_in h1.1 (by omega)]
    · rw [pk_cpy_out (by omega), pk_cpy_out (by omega)]
theorem cpy_0 (f g : Nat → Int32) (sp dp : Nat) : va_cpy f g sp dp 0 = g := by
  funext j
  exact pk_cpy_out (by omega)
def b2i (b : Bool) : Int32 := if b then 1 else 0
theorem b2i_t : b2i true = 1 := rfl
theorem b2i_f : b2i false = 0 := rfl
theorem b2i_0 (b : Bool) : (b2i b = 0) ↔ b = false := by cases b <;> decide
theorem b2i_01 (b : Bool) : b2i b = 0 ∨ b2i b = 1 := by cases b <;> decide
def wrK (k : Nat) : Bool := (decide (1 ≤ k) && decide (k ≤ 7)) || k == 11
def raK (k : Nat) : Bool := (decide (2 ≤ k) && decide (k ≤ 8)) || k == 10 || k == 11 || k == 12
def rbK (k : Nat) : Bool := (decide (3 ≤ k) && decide (k ≤ 6)) || k == 8
def goK (k : Nat) : Bool := k == 9 || k == 10
def arK (k : Nat) : Bool := decide (3 ≤ k) && decide (k ≤ 6)
def onK (k : Nat) : Bool := decide (1 ≤ k) && decide (k ≤ 5)
def faK (k : Nat) : Bool := !(k == 9) && !(k == 12)
theorem s_writesD : ∀ k, k < 15 → f_X2_writesD (nI k) = some (b2i (wrK k)) := by decide +kernel
theorem s_readsA : ∀ k, k < 15 → f_X2_readsA (nI k) = some (b2i (raK k)) := by decide +kernel
theorem s_readsB : ∀ k, k < 15 → f_X2_readsB (nI k) = some (b2i (rbK k)) := by decide +kernel
theorem s_goesToD : ∀ k, k < 15 → f_X2_goesToD (nI k) = some (b2i (goK k)) := by decide +kernel
theorem s_isArithmetic : ∀ k, k < 15 → f_X2_isArithmetic (nI k) = some (b2i (arK k)) := by decide +kernel
theorem s_onlyGivesD : ∀ k, k < 15 → f_X2_onlyGivesD (nI k) = some (b2i (onK k)) := by decide +kernel
theorem m_writes : ∀ k, k < 15 → f_X9_writes (nI k) = some (b2i (wrK k || k == 13)) := by decide +kernel
theorem m_readsA : ∀ k, k < 15 → f_X9_readsA (nI k) = some (b2i (raK k || k == 14)) := by decide +kernel
theorem m_readsB : ∀ k, k < 15 → f_X9_readsB (nI k) = some (b2i (rbK k)) := by decide +kernel
theorem m_goes : ∀ k, k < 15 → f_X9_goes (nI k) = some (b2i (goK k)) := by decide +kernel
theorem m_falls : ∀ k, k < 15 → f_X9_falls (nI k) = some (b2i (faK k)) := by decide +kernel
/-- what ADD, SUB, MUL, DIV give -/
def evK (k : Nat) (x y : Int32) : Int32 := if k = 3 then x + y else if k = 4 then x - y else if k = 5 then x * y else x / y
theorem s_compute {k : Nat} (h3 : 3 ≤ k) (h6 : k ≤ 6) (x y : Int32) (hd : k = 6 → ¬ y = 0) : f_X2_compute (nI k) x y = some (evK k x y) := by
  have hk : k = 3 ∨ k = 4 ∨ k = 5 ∨ k = 6 := by omega
  unfold f_X2_compute evK
  rcases hk with rfl | rfl | rfl | rfl
  · rw [if_pos (by decide +kernel), if_pos rfl]
  · rw [if_neg (by decide +kernel), if_pos (by decide +kernel), if_neg (by decide), if_pos rfl]
  · rw [if_neg (by decide +kernel), if_neg (by decide +kernel), if_pos (by decide +kernel), if_neg (by decide), if_neg (by decide), if_pos rfl]
  · rw [if_neg (by decide +kernel), if_neg (by decide +kernel), if_neg (by decide +kernel), if_pos (by decide +kernel), if_neg (hd rfl), gz_in (hd rfl), if_neg (by decide), if_neg (by decide), if_neg (by decide)]
theorem m_reckon {k : Nat} (h3 : 3 ≤ k) (h6 : k ≤ 6) (x y : Int32) (hd : k = 6 → ¬ y = 0) : f_X9_reckon (nI k) x y = some (evK k x y) := by
  have hk : k = 3 ∨ k = 4 ∨ k = 5 ∨ k = 6 := by omega
  unfold f_X9_reckon evK
  rcases hk with rfl | rfl | rfl | rfl
  · rw [if_pos (by decide +kernel), if_pos rfl]
  · rw [if_neg (by decide +kernel), if_pos (by decide +kernel), if_neg (by decide), if_pos rfl]
  · rw [if_neg (by decide +kernel), if_neg (by decide +kernel), if_pos (by decide +kernel), if_neg (by decide), if_neg (by decide), if_pos rfl]
  · rw [if_neg (by decide +kernel), if_neg (by decide +kernel), if_neg (by decide +kernel), gz_in (hd rfl), if_neg (by decide), if_neg (by decide), if_neg (by decide)]
section PRG
variable {L : Nat} {fa fb fd fk : Nat → Int32}
theorem s_put {i : Nat} (hi : i < L) (hL : L < 2 ^ 31) (k d a b : Int32) : f_X6_put L fa fb fd fk (nI i) k d a b = some ((if fk i = k ∧ fd i = d ∧ fa i = a ∧ fb i = b then 0 else 1), upd fa i a, upd fb i b, upd fd i d, upd fk i k) := by
  have hc : (nI i).toNatClampNeg = i := nI_clamp (by omega)
  have z : ¬ (1 : Int32) = 0 := by decide
  unfold f_X6_put f_X6_put_47
  simp only [pn_gd hi hL, hc]
  by_cases h1 : fk i = k
  · by_cases h2 : fd i = d
    · by_cases h3 : fa i = a
      · by_cases h4 : fb i = b
        · simp [h1, h2, h3, h4, z]
        · simp [h1, h2, h3, h4]
      · simp [h1, h2, h3]
    · simp [h1, h2]
  · simp [h1]
theorem s_append {c : Nat} (hc : c < L) (hL : L < 2 ^ 31) (k d a b : Int32) : f_X6_append L fa fb fd fk (nI c) k d a b = some (upd fa c a, upd fb c b, upd fd c d, upd fk c k, nI (c + 1)) := by
  unfold f_X6_append
  rw [if_neg (by show ¬ nI L ≤ nI c; exact nI_ge hc hL), pn_sp, s_put hc hL]
  simp only [Option.bind_some, pn_s]
theorem s_copy7 (n L1 : Nat) (ga gb gd9 gk : Nat → Int32) {c : Nat} (h0 : c ≤ L) (h1 : c ≤ L1) (hL : L < 2 ^ 31) (hL1 : L1 < 2 ^ 31) : ∀ (k j : Nat), j ≤ c → c - j < k →
    f_X6_copyFrom_7 n k L L1 (va_cpy ga fa 0 0 j) (va_cpy gb fb 0 0 j) (va_cpy gd9 fd 0 0 j) (va_cpy gk fk 0 0 j) ga gb gd9 gk (nI j) (nI c) (nI j) = some (va_cpy ga fa 0 0 c, va_cpy gb fb 0 0 c, va_cpy gd9 fd 0 0 c, va_cpy gk fk 0 0 c, nI c) := by
  intro k
  induction k with
  | zero => intro j h1 h2; omega
  | succ k ih =>
    intro j hj hk
    rw [f_X6_copyFrom_7]
    by_cases e : j = c
    · subst e
      rw [if_pos (nI_le (Nat.le_refl _) (by omega))]
    · have hlt : j < c := by omega
      have hcl : (nI j).toNatClampNeg = j := nI_clamp (by omega)
      rw [if_neg (nI_ge hlt (by omega))]
      simp only [pn_gd (show j < L1 by omega) hL1, hcl]
      rw [s_append (by omega) hL]
      simp only [Option.bind_some, pn_s]
      have e1 : ∀ (f g : Nat → Int32), upd (va_cpy f g 0 0 j) j (f j) = va_cpy f g 0 0 (j + 1) := fun f g => by
        have := cpy_s f g 0 0 j
        rw [Nat.zero_add] at this
        exact this
      rw [e1, e1, e1, e1]
      exact ih (j + 1) (by omega) (by omega)
theorem s_copyFrom {n L1 : Nat} (ga gb gd9 gk : Nat → Int32) {c : Nat} (v0 : Int32) (h0 : c ≤ L) (h1 : c ≤ L1) (hL : L < 2 ^ 31) (hL1 : L1 < 2 ^ 31) (hn : c < n) :
    f_X6_copyFrom n L L1 fa fb fd fk ga gb gd9 gk v0 (nI c) = some (va_cpy ga fa 0 0 c, va_cpy gb fb 0 0 c, va_cpy gd9 fd 0 0 c, va_cpy gk fk 0 0 c, nI c) := by
  have := s_copy7 (fa := fa) (fb := fb) (fd := fd) (fk := fk) n L1 ga gb gd9 gk h0 h1 hL hL1 n 0 (by omega) (by omega)
  rw [cpy_0, cpy_0, cpy_0, cpy_0] at this
  unfold f_X6_copyFrom
  exact this
end PRG
