/-! ALLOCATE: what an instruction becomes, both sides. -/
def b2n (b : Bool) : Nat := if b = true then 1 else 0
theorem b2n_t : b2n true = 1 := rfl
theorem b2n_f : b2n false = 0 := rfl
theorem b2n_1 (b : Bool) : b2n b ≤ 1 := by cases b <;> decide
def apx (b : Bool) (f : Nat → Int32) (n : Nat) (v : Int32) : Nat → Int32 := if b = true then upd f n v else f
theorem apx_t (f : Nat → Int32) (n : Nat) (v : Int32) : apx true f n v = upd f n v := rfl
theorem apx_f (f : Nat → Int32) (n : Nat) (v : Int32) : apx false f n v = f := rfl
/-- what is appended beside an instruction, in one row -/
def emF (sA sB sD : Bool) (f : Nat → Int32) (n : Nat) (va vb vo vd : Int32) : Nat → Int32 :=
  apx sD (upd (apx sB (apx sA f n va) (n + b2n sA) vb) (n + b2n sA + b2n sB) vo) (n + b2n sA + b2n sB + 1) vd
abbrev exB (sA sB sD : Bool) : Nat := b2n sA + b2n sB + 1 + b2n sD
theorem em_lt {sA sB sD : Bool} {f : Nat → Int32} {n x : Nat} {va vb vo vd : Int32} (h : x < n) : emF sA sB sD f n va vb vo vd x = f x := by
  have a1 := b2n_1 sA
  have a2 := b2n_1 sB
  unfold emF
  have h1 : ∀ (b : Bool) (g : Nat → Int32) (m : Nat) (v : Int32), x < m → apx b g m v x = g x := fun b g m v hm => by
    unfold apx
    split
    · exact upd_n _ (by omega)
    · rfl
  rw [h1 _ _ _ _ (by omega), upd_n _ (by omega), h1 _ _ _ _ (by omega), h1 _ _ _ _ h]
theorem em_D {sA sB sD : Bool} {f : Nat → Int32} {n : Nat} {va vb vo vd : Int32} (h : sD = true) : emF sA sB sD f n va vb vo vd (n + b2n sA + b2n sB + 1) = vd := by
  unfold emF
  rw [h, apx_t, upd_s]
theorem em_O {sA sB sD : Bool} {f : Nat → Int32} {n : Nat} {va vb vo vd : Int32} : emF sA sB sD f n va vb vo vd (n + b2n sA + b2n sB) = vo := by
  unfold emF
  cases sD with
  | true => rw [apx_t, upd_n _ (by omega), upd_s]
  | false => rw [apx_f, upd_s]
theorem em_B {sA sB sD : Bool} {f : Nat → Int32} {n : Nat} {va vb vo vd : Int32} (h : sB = true) : emF sA sB sD f n va vb vo vd (n + b2n sA) = vb := by
  unfold emF
  rw [h, apx_t, b2n_t]
  cases sD with
  | true => rw [apx_t, upd_n _ (by omega), upd_n _ (by omega), upd_s]
  | false => rw [apx_f, upd_n _ (by omega), upd_s]
theorem em_A {sA sB sD : Bool} {f : Nat → Int32} {n : Nat} {va vb vo vd : Int32} (h : sA = true) : emF sA sB sD f n va vb vo vd n = va := by
  unfold emF
  rw [h, apx_t, b2n_t]
  cases sB with
  | true =>
    rw [apx_t, b2n_t]
    cases sD with
    | true => rw [apx_t, upd_n _ (by omega), upd_n _ (by omega), upd_n _ (by omega), upd_s]
    | false => rw [apx_f, upd_n _ (by omega), upd_n _ (by omega), upd_s]
  | false =>
    rw [apx_f, b2n_f]
    cases sD with
    | true => rw [apx_t, upd_n _ (by omega), upd_n _ (by omega), upd_s]
    | false => rw [apx_f, upd_n _ (by omega), upd_s]
theorem em_cases {sA sB sD : Bool} {n x : Nat} (h1 : n ≤ x) (h2 : x < n + exB sA sB sD) : (sA = true ∧ x = n) ∨ (sB = true ∧ x = n + b2n sA) ∨ x = n + b2n sA + b2n sB ∨ (sD = true ∧ x = n + b2n sA + b2n sB + 1) := by
  cases sA <;> cases sB <;> cases sD <;> simp [exB, b2n] at h2 ⊢ <;> omega
theorem em_shift {sA sB sD : Bool} {f g : Nat → Int32} {n : Nat} {va vb vo vd : Int32} (h : ∀ x, x < n → g (300 + x) = f x) : ∀ x, x < n + exB sA sB sD → emF sA sB sD g (300 + n) va vb vo vd (300 + x) = emF sA sB sD f n va vb vo vd x := fun x hx => by
  by_cases z : x < n
  · rw [em_lt z, em_lt (by omega), h x z]
  · rcases em_cases (by omega) hx with ⟨a, b⟩ | ⟨a, b⟩ | b | ⟨a, b⟩
    · rw [b, em_A a, em_A a]
    · rw [b, em_B a, show 300 + (n + b2n sA) = 300 + n + b2n sA by omega, em_B a]
    · rw [b, em_O, show 300 + (n + b2n sA + b2n sB) = 300 + n + b2n sA + b2n sB by omega, em_O]
    · rw [b, em_D a, show 300 + (n + b2n sA + b2n sB + 1) = 300 + n + b2n sA + b2n sB + 1 by omega, em_D a]
section EX
variable (hm : Nat → Nat) (h : Nat)
def slX (b : Bool) (x : Int32) : Bool := b && decide (8 ≤ hm (nN x))
def plX (b : Bool) (x : Int32) (hp : Nat) : Int32 := if b = true then (if 8 ≤ hm (nN x) then nI hp else nI (hm (nN x))) else x
end EX
section EX2
variable {L Ls c k : Nat} {hm : Nat → Nat} {h : Nat} {ho sa sb sd sk : Nat → Int32}
theorem s_inSlot {x : Int32} {r : Nat} (hr : r < 8) (hx : x = nI r) (hH : RelN hm 8 ho) : f_X0_isInSlot ho x = some (b2i (decide (8 ≤ hm (nN x)))) := by
  unfold f_X0_isInSlot
  have hb := (hH r hr).2
  have l8 : ((nI (hm r)) < (8 : Int32)) ↔ hm r < 8 := nI_ltI (b := 8) (by omega) (by decide)
  rw [hx, pn_gd hr (by omega), nI_clamp (by omega), (hH r hr).1, nN_nI hr]
  simp only [l8]
  by_cases z : 8 ≤ hm r
  · rw [if_neg (by omega), decide_eq_true z]; rfl
  · rw [if_pos (by omega), decide_eq_false z]; rfl
theorem s_place {x : Int32} {r hp : Nat} (hr : r < 8) (hx : x = nI r) (hH : RelN hm 8 ho) : f_X0_place ho x (nI hp) = some (plX hm true x hp) := by
  unfold f_X0_place plX
  rw [s_inSlot hr hx hH, if_pos rfl]
  simp only [Option.bind_some]
  by_cases z : 8 ≤ hm (nN x)
  · rw [if_pos z, decide_eq_true z, if_neg (show ¬ b2i true = 0 by decide)]
  · rw [if_neg z, decide_eq_false z, if_pos (show b2i false = 0 by decide), hx, pn_gd hr (by omega), nI_clamp (by omega), (hH r hr).1, nN_nI hr]
theorem h_m8 {x : Int32} {r : Nat} (hr : r < 8) (hx : x = nI r) (hH : RelN hm 8 ho) (z : 8 ≤ hm (nN x)) : ho (nN x) - (8 : Int32) = nI (hm (nN x) - 8) := by
  rw [hx, nN_nI hr] at z ⊢
  rw [(hH r hr).1]
  exact nI_sub z
theorem s_expand {n i : Nat} {ea eb ed ek : Nat → Int32} (hi : i < Ls) (hLs : Ls < 2 ^ 31) (hn : n + 4 ≤ L) (hL : L < 2 ^ 31) (hk : sk i = nI k) (w : WI c k (sd i) (sa i) (sb i)) (hH : RelN hm 8 ho) :
    f_X0_expand Ls L ho sa sb sd sk ea eb ed ek (nI n) (nI i) (nI h) (nI (h + 1)) = some (
      emF (slX hm (raK k) (sa i)) (slX hm (rbK k) (sb i)) (slX hm (wrK k) (sd i)) ea n (nI (hm (nN (sa i)) - 8)) (nI (hm (nN (sb i)) - 8)) (plX hm (raK k) (sa i) h) (nI h),
      emF (slX hm (raK k) (sa i)) (slX hm (rbK k) (sb i)) (slX hm (wrK k) (sd i)) eb n 0 0 (plX hm (rbK k) (sb i) (h + 1)) (nI (hm (nN (sd i)) - 8)),
      emF (slX hm (raK k) (sa i)) (slX hm (rbK k) (sb i)) (slX hm (wrK k) (sd i)) ed n (nI h) (nI (h + 1)) (plX hm (wrK k) (sd i) h) 0,
      emF (slX hm (raK k) (sa i)) (slX hm (rbK k) (sb i)) (slX hm (wrK k) (sd i)) ek n 13 13 (nI k) 14,
      nI (n + exB (slX hm (raK k) (sa i)) (slX hm (rbK k) (sb i)) (slX hm (wrK k) (sd i)))) := by
  have hk15 : k < 15 := by have := w.1; omega
  have g : ∀ {α : Type} {x : Option α}, gd (nI i) Ls x = x := pn_gd hi hLs
  have hcl : (nI i).toNatClampNeg = i := nI_clamp (by omega)
  have g8 : ∀ {x : Int32}, (∃ r, r < 8 ∧ x = nI r) → ∀ {α : Type} {y : Option α}, gd x 8 y = y := fun ⟨r, h1, h2⟩ => by rw [h2]; exact pn_gd h1 (by omega)
  -- the end: the instruction itself, and the SPILL
  have e185 : ∀ (m : Nat) (ea eb ed ek : Nat → Int32) (t2 t3 t4 : Int32), m + 2 ≤ L → f_X0_expand_185 Ls L ho sa sb sd sk ea eb ed ek (nI m) (nI h) (sd i) (b2i (wrK k)) (nI k) t2 t3 t4 = some (apx (slX hm (wrK k) (sd i)) (upd ea m t3) (m + 1) (nI h), apx (slX hm (wrK k) (sd i)) (upd eb m t4) (m + 1) (nI (hm (nN (sd i)) - 8)), apx (slX hm (wrK k) (sd i)) (upd ed m t2) (m + 1) 0, apx (slX hm (wrK k) (sd i)) (upd ek m (nI k)) (m + 1) 14, nI (m + 1 + b2n (slX hm (wrK k) (sd i)))) := fun m ea eb ed ek t2 t3 t4 hm2 => by
    unfold f_X0_expand_185
    rw [s_append (by omega) hL]
    simp only [Option.bind_some]
    cases ew : wrK k with
    | false => rfl
    | true =>
      obtain ⟨r, r1, r2⟩ := w.2.1 ew
      rw [if_neg (show ¬ b2i true = 0 by decide), s_inSlot r1 r2 hH, g8 ⟨r, r1, r2⟩]
      simp only [Option.bind_some]
      unfold slX
      rw [Bool.true_and]
      by_cases z : 8 ≤ hm (nN (sd i))
      · rw [decide_eq_true z, if_neg (show ¬ b2i true = 0 by decide), show ho (sd i).toNatClampNeg - 8 = nI (hm (nN (sd i)) - 8) from h_m8 r1 r2 hH z, s_append (by omega) hL]
        rfl
      · rw [decide_eq_false z]; rfl
  have e130 : ∀ (m : Nat) (ea eb ed ek : Nat → Int32), m + 2 ≤ L → f_X0_expand_130 Ls L ho sa sb sd sk ea eb ed ek (nI m) (nI h) (nI (h + 1)) (nI k) (sd i) (sa i) (sb i) (b2i (wrK k)) (b2i (raK k)) (b2i (rbK k)) = some (apx (slX hm (wrK k) (sd i)) (upd ea m (plX hm (raK k) (sa i) h)) (m + 1) (nI h), apx (slX hm (wrK k) (sd i)) (upd eb m (plX hm (rbK k) (sb i) (h + 1))) (m + 1) (nI (hm (nN (sd i)) - 8)), apx (slX hm (wrK k) (sd i)) (upd ed m (plX hm (wrK k) (sd i) h)) (m + 1) 0, apx (slX hm (wrK k) (sd i)) (upd ek m (nI k)) (m + 1) 14, nI (m + 1 + b2n (slX hm (wrK k) (sd i)))) := fun m ea eb ed ek hm2 => by
    have e167 : ∀ t2 t3, f_X0_expand_167 Ls L ho sa sb sd sk ea eb ed ek (nI m) (nI h) (nI (h + 1)) (sd i) (sb i) (b2i (wrK k)) (b2i (rbK k)) (nI k) t2 t3 = f_X0_expand_185 Ls L ho sa sb sd sk ea eb ed ek (nI m) (nI h) (sd i) (b2i (wrK k)) (nI k) t2 t3 (plX hm (rbK k) (sb i) (h + 1)) := fun t2 t3 => by
      unfold f_X0_expand_167
      cases er : rbK k with
      | false => rfl
      | true =>
        obtain ⟨r, r1, r2⟩ := w.2.2.2.1 er
        rw [if_neg (show ¬ b2i true = 0 by decide), s_place r1 r2 hH]
        rfl
    have e150 : ∀ t2, f_X0_expand_150 Ls L ho sa sb sd sk ea eb ed ek (nI m) (nI h) (nI (h + 1)) (sd i) (sa i) (sb i) (b2i (wrK k)) (b2i (raK k)) (b2i (rbK k)) (nI k) t2 = f_X0_expand_167 Ls L ho sa sb sd sk ea eb ed ek (nI m) (nI h) (nI (h + 1)) (sd i) (sb i) (b2i (wrK k)) (b2i (rbK k)) (nI k) t2 (plX hm (raK k) (sa i) h) := fun t2 => by
      unfold f_X0_expand_150
      cases er : raK k with
      | false => rfl
      | true =>
        obtain ⟨r, r1, r2⟩ := w.2.2.1 er
        rw [if_neg (show ¬ b2i true = 0 by decide), s_place r1 r2 hH]
        rfl
    rw [← e185 m ea eb ed ek _ _ _ hm2, ← e167, ← e150]
    unfold f_X0_expand_130
    cases er : wrK k with
    | false => rfl
    | true =>
      obtain ⟨r, r1, r2⟩ := w.2.1 er
      rw [if_neg (show ¬ b2i true = 0 by decide), s_place r1 r2 hH]
      rfl
  have e97 : ∀ (m : Nat) (ea eb ed ek : Nat → Int32), m + 3 ≤ L → f_X0_expand_97 Ls L ho sa sb sd sk ea eb ed ek (nI m) (nI h) (nI (h + 1)) (nI k) (sd i) (sa i) (sb i) (b2i (wrK k)) (b2i (raK k)) (b2i (rbK k)) = f_X0_expand_130 Ls L ho sa sb sd sk (apx (slX hm (rbK k) (sb i)) ea m (nI (hm (nN (sb i)) - 8))) (apx (slX hm (rbK k) (sb i)) eb m 0) (apx (slX hm (rbK k) (sb i)) ed m (nI (h + 1))) (apx (slX hm (rbK k) (sb i)) ek m 13) (nI (m + b2n (slX hm (rbK k) (sb i)))) (nI h) (nI (h + 1)) (nI k) (sd i) (sa i) (sb i) (b2i (wrK k)) (b2i (raK k)) (b2i (rbK k)) := fun m ea eb ed ek hm2 => by
    unfold f_X0_expand_97
    cases er : rbK k with
    | false => rfl
    | true =>
      obtain ⟨r, r1, r2⟩ := w.2.2.2.1 er
      rw [if_neg (show ¬ b2i true = 0 by decide), s_inSlot r1 r2 hH, g8 ⟨r, r1, r2⟩]
      simp only [Option.bind_some]
      unfold slX
      rw [Bool.true_and]
      by_cases z : 8 ≤ hm (nN (sb i))
      · rw [decide_eq_true z, if_neg (show ¬ b2i true = 0 by decide), show ho (sb i).toNatClampNeg - 8 = nI (hm (nN (sb i)) - 8) from h_m8 r1 r2 hH z, s_append (by omega) hL]
        rfl
      · rw [decide_eq_false z]; rfl
  have e0 : f_X0_expand Ls L ho sa sb sd sk ea eb ed ek (nI n) (nI i) (nI h) (nI (h + 1)) = f_X0_expand_97 Ls L ho sa sb sd sk (apx (slX hm (raK k) (sa i)) ea n (nI (hm (nN (sa i)) - 8))) (apx (slX hm (raK k) (sa i)) eb n 0) (apx (slX hm (raK k) (sa i)) ed n (nI h)) (apx (slX hm (raK k) (sa i)) ek n 13) (nI (n + b2n (slX hm (raK k) (sa i)))) (nI h) (nI (h + 1)) (nI k) (sd i) (sa i) (sb i) (b2i (wrK k)) (b2i (raK k)) (b2i (rbK k)) := by
    unfold f_X0_expand
    simp only [g]
    rw [hcl, hk, s_writesD k hk15, s_readsA k hk15, s_readsB k hk15]
    simp only [Option.bind_some]
    cases er : raK k with
    | false =>
      have hz : slX hm false (sa i) = false := rfl
      rw [hz, apx_f, apx_f, apx_f, apx_f, b2n_f, Nat.add_zero n, if_pos (show b2i false = 0 by decide)]
    | true =>
      obtain ⟨r, r1, r2⟩ := w.2.2.1 er
      rw [if_neg (show ¬ b2i true = 0 by decide), s_inSlot r1 r2 hH, g8 ⟨r, r1, r2⟩]
      simp only [Option.bind_some]
      unfold slX
      rw [Bool.true_and]
      by_cases z : 8 ≤ hm (nN (sa i))
      · rw [decide_eq_true z, if_neg (show ¬ b2i true = 0 by decide), show ho (sa i).toNatClampNeg - 8 = nI (hm (nN (sa i)) - 8) from h_m8 r1 r2 hH z, s_append (by omega) hL, apx_t, apx_t, apx_t, apx_t, b2n_t]
        rfl
      · rw [decide_eq_false z, apx_f, apx_f, apx_f, apx_f, b2n_f, Nat.add_zero n, if_pos (show b2i false = 0 by decide)]
  have a1 := b2n_1 (slX hm (raK k) (sa i))
  have a2 := b2n_1 (slX hm (rbK k) (sb i))
  rw [e0, e97 _ _ _ _ _ (by omega), e130 _ _ _ _ _ (by omega)]
  unfold emF exB
  rw [show n + b2n (slX hm (raK k) (sa i)) + b2n (slX hm (rbK k) (sb i)) + 1 + b2n (slX hm (wrK k) (sd i)) = n + (b2n (slX hm (raK k) (sa i)) + b2n (slX hm (rbK k) (sb i)) + 1 + b2n (slX hm (wrK k) (sd i))) by omega]
end EX2
