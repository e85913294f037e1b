/-! SHARE: holders and tables, both sides. -/
def lwG (h : Nat → Nat) (v : Nat) : Nat → Nat → Option Nat
  | 0, _ => none
  | m + 1, j => if h j = v then some j else lwG h v m (j + 1)
def oI : Option Nat → Int32
  | none => -1
  | some r => nI r
theorem lwG_some {h : Nat → Nat} {v : Nat} : ∀ (m j : Nat) {r : Nat}, lwG h v m j = some r → h r = v ∧ j ≤ r ∧ r < j + m
  | 0, _, _, e => by cases e
  | m + 1, j, r, e => by
    unfold lwG at e
    by_cases z : h j = v
    · rw [if_pos z] at e
      cases e
      exact ⟨z, Nat.le_refl _, by omega⟩
    · rw [if_neg z] at e
      have := lwG_some m (j + 1) e
      exact ⟨this.1, by omega, by omega⟩
theorem lwG_ex {h : Nat → Nat} {v : Nat} : ∀ (m j : Nat) {r : Nat}, j ≤ r → r < j + m → h r = v → ∃ x, lwG h v m j = some x ∧ x ≤ r
  | 0, _, _, h1, h2, _ => by omega
  | m + 1, j, r, h1, h2, e => by
    unfold lwG
    by_cases z : h j = v
    · exact ⟨j, by rw [if_pos z], h1⟩
    · rw [if_neg z]
      have : j ≠ r := fun t => z (by rw [t]; exact e)
      exact lwG_ex m (j + 1) (by omega) (by omega) e
theorem lwG_shift {h g : Nat → Nat} {v b : Nat} : ∀ (m j : Nat), (∀ r, j ≤ r → r < j + m → g r = b + h r) → lwG g (b + v) m j = lwG h v m j
  | 0, _, _ => rfl
  | m + 1, j, e => by
    unfold lwG
    rw [e j (Nat.le_refl _) (by omega), lwG_shift m (j + 1) (fun r h1 h2 => e r (by omega) (by omega))]
    by_cases z : h j = v
    · rw [if_pos z, if_pos (by omega)]
    · rw [if_neg z, if_neg (by omega)]
theorem s_low2 (n : Nat) {f : Nat → Int32} {h : Nat → Nat} {v : Nat} (hv : v < 2 ^ 31) (hf : ∀ r, r < 8 → f r = nI (h r) ∧ h r < 2 ^ 31) : ∀ (k j : Nat), j ≤ 8 → 8 - j < k → f_X7_lowestHolder_2 n k f (nI v) (nI j) = some (oI (lwG h v (8 - j) j)) := by
  intro k
  induction k with
  | zero => intro j h1 h2; omega
  | succ k ih =>
    intro j hj hk
    rw [f_X7_lowestHolder_2]
    by_cases e : j = 8
    · rw [if_pos ((le8 (by omega)).mpr (by omega)), e]; rfl
    · have hlt : j < 8 := by omega
      have hsub : 8 - j = (8 - (j + 1)) + 1 := by omega
      rw [if_neg (fun z => e (by have := (le8 (by omega)).mp z; omega)), pn_gd hlt (by omega), nI_clamp (by omega), (hf j hlt).1, hsub, pn_s]
      show _ = some (oI (if h j = v then some j else lwG h v (8 - (j + 1)) (j + 1)))
      by_cases z : h j = v
      · rw [if_pos (by rw [z]), if_pos z]; rfl
      · rw [if_neg (fun t => z ((nI_eq (hf j hlt).2 hv).mp t)), if_neg z]
        exact ih (j + 1) (by omega) (by omega)
theorem m_low2 (n : Nat) {f : Nat → Int32} {h : Nat → Nat} {v : Nat} (hv : v < 2 ^ 31) (hf : ∀ r, r < 8 → f r = nI (h r) ∧ h r < 2 ^ 31) : ∀ (k j : Nat), j ≤ 8 → 8 - j < k → f_X9_lowest_2 n k f (nI v) (nI j) = some (oI (lwG h v (8 - j) j)) := by
  intro k
  induction k with
  | zero => intro j h1 h2; omega
  | succ k ih =>
    intro j hj hk
    rw [f_X9_lowest_2]
    by_cases e : j = 8
    · rw [if_pos ((le8 (by omega)).mpr (by omega)), e]; rfl
    · have hlt : j < 8 := by omega
      have hsub : 8 - j = (8 - (j + 1)) + 1 := by omega
      rw [if_neg (fun z => e (by have := (le8 (by omega)).mp z; omega)), pn_gd hlt (by omega), nI_clamp (by omega), (hf j hlt).1, hsub, pn_s]
      show _ = some (oI (if h j = v then some j else lwG h v (8 - (j + 1)) (j + 1)))
      by_cases z : h j = v
      · rw [if_pos (by rw [z]), if_pos z]; rfl
      · rw [if_neg (fun t => z ((nI_eq (hf j hlt).2 hv).mp t)), if_neg z]
        exact ih (j + 1) (by omega) (by omega)
theorem s_low {n : Nat} (hn : 8 < n) {f : Nat → Int32} {h : Nat → Nat} {v : Nat} (hv : v < 2 ^ 31) (hf : ∀ r, r < 8 → f r = nI (h r) ∧ h r < 2 ^ 31) : f_X7_lowestHolder n f (nI v) = some (oI (lwG h v 8 0)) := s_low2 n hv hf n 0 (by omega) (by omega)
theorem m_low {n : Nat} (hn : 8 < n) {f : Nat → Int32} {h : Nat → Nat} {v : Nat} (hv : v < 2 ^ 31) (hf : ∀ r, r < 8 → f r = nI (h r) ∧ h r < 2 ^ 31) : f_X9_lowest n f (nI v) = some (oI (lwG h v 8 0)) := m_low2 n hv hf n 0 (by omega) (by omega)
abbrev VT := Nat → Int32 → Int32 → Option Nat
def tvT (T : VT) (nv k : Nat) (x y : Int32) : VT := match T k x y with
  | some _ => T
  | none => fun k' x' y' => if k' = k ∧ x' = x ∧ y' = y then some nv else T k' x' y'
def tvV (T : VT) (nv k : Nat) (x y : Int32) : Nat := (T k x y).getD nv
def tvN (T : VT) (nv k : Nat) (x y : Int32) : Nat := match T k x y with
  | some _ => nv
  | none => nv + 1
def RelT (T : VT) (nv : Nat) (eK eV eX eY : Nat → Int32) (m : Nat) : Prop :=
  (∀ k x y v, T k x y = some v → k < 15 ∧ v < nv ∧ ∃ e, e < m ∧ eK e = nI k ∧ eX e = x ∧ eY e = y ∧ eV e = nI v) ∧
  (∀ e, e < m → ∃ k v, k < 15 ∧ T k (eX e) (eY e) = some v ∧ eK e = nI k ∧ eV e = nI v)
theorem s_table3 (n : Nat) {T : VT} {nv m k : Nat} {eK eV eX eY : Nat → Int32} {x y : Int32} (hm : m < 24) (hk : k < 15) (hR : RelT T nv eK eV eX eY m) : ∀ (kk j : Nat), j ≤ m → m - j < kk → (∀ e, e < j → ¬ (eK e = nI k ∧ eX e = x ∧ eY e = y)) →
    ∃ eK' eV' eX' eY' m', f_X7_tableValue_3 n kk eK eV eX eY (nI m) (nI nv) (nI k) x y (nI j) = some (nI (tvV T nv k x y), eK', eV', eX', eY', nI m', nI (tvN T nv k x y)) ∧ RelT (tvT T nv k x y) (tvN T nv k x y) eK' eV' eX' eY' m' ∧ m' ≤ m + 1 := by
  intro kk
  induction kk with
  | zero => intro j h1 h2; omega
  | succ kk ih =>
    intro j hj hkk hno
    rw [f_X7_tableValue_3]
    by_cases e : j = m
    · subst e
      have hT : T k x y = none := by
        cases e2 : T k x y with
        | none => rfl
        | some v =>
          obtain ⟨_, _, e, h1, h2, h3, h4, _⟩ := hR.1 k x y v e2
          exact absurd ⟨h2, h3, h4⟩ (hno e h1)
      have g : ∀ {α : Type} {x : Option α}, gd (nI j) 24 x = x := pn_gd hm (by omega)
      rw [if_pos (nI_le (Nat.le_refl _) (by omega))]
      unfold f_X7_newValue
      simp only [Option.bind_some, g, pn_s, pn_sp]
      rw [if_neg (fun z => by have := (le24 (by omega)).mp z; omega), nI_clamp (by omega), pn_p]
      have e1 : tvV T nv k x y = nv := by unfold tvV; rw [hT]; rfl
      have e2 : tvN T nv k x y = nv + 1 := by unfold tvN; rw [hT]
      have e3 : tvT T nv k x y = fun k' x' y' => if k' = k ∧ x' = x ∧ y' = y then some nv else T k' x' y' := by unfold tvT; rw [hT]
      rw [e1, e2, e3]
      refine ⟨_, _, _, _, j + 1, rfl, ⟨?_, ?_⟩, Nat.le_refl _⟩
      · intro k' x' y' v h
        have h : (if k' = k ∧ x' = x ∧ y' = y then some nv else T k' x' y') = some v := h
        by_cases z : k' = k ∧ x' = x ∧ y' = y
        · rw [if_pos z] at h
          obtain ⟨z1, z2, z3⟩ := z
          refine ⟨by omega, by have := Option.some.inj h; omega, j, by omega, ?_⟩
          rw [upd_s, upd_s, upd_s, upd_s, z1, z2, z3, Option.some.inj h]
          exact ⟨rfl, rfl, rfl, rfl⟩
        · rw [if_neg z] at h
          obtain ⟨a1, a2, e, b1, b2, b3, b4, b5⟩ := hR.1 k' x' y' v h
          refine ⟨a1, by omega, e, by omega, ?_⟩
          have ne : e ≠ j := by omega
          rw [upd_n _ ne, upd_n _ ne, upd_n _ ne, upd_n _ ne]
          exact ⟨b2, b3, b4, b5⟩
      · intro e he
        by_cases z : e = j
        · subst z
          refine ⟨k, nv, hk, ?_, ?_⟩
          · rw [upd_s, upd_s]
            exact if_pos ⟨rfl, rfl, rfl⟩
          · rw [upd_s, upd_s]; exact ⟨rfl, rfl⟩
        · rw [upd_n _ z, upd_n _ z, upd_n _ z, upd_n _ z]
          obtain ⟨k', v, b1, b2, b3, b4⟩ := hR.2 e (by omega)
          refine ⟨k', v, b1, ?_, b3, b4⟩
          refine (if_neg (fun t => ?_)).trans b2
          · exact hno e (by omega) ⟨by rw [b3, t.1], t.2.1, t.2.2⟩
    · have hlt : j < m := by omega
      have g : ∀ {α : Type} {x : Option α}, gd (nI j) 24 x = x := pn_gd (by omega) (by omega)
      rw [if_neg (nI_ge hlt (by omega))]
      simp only [g, pn_s]
      rw [nI_clamp (by omega)]
      have next : ¬ (eK j = nI k ∧ eX j = x ∧ eY j = y) → ∃ eK' eV' eX' eY' m', f_X7_tableValue_3 n kk eK eV eX eY (nI m) (nI nv) (nI k) x y (nI (j + 1)) = some (nI (tvV T nv k x y), eK', eV', eX', eY', nI m', nI (tvN T nv k x y)) ∧ RelT (tvT T nv k x y) (tvN T nv k x y) eK' eV' eX' eY' m' ∧ m' ≤ m + 1 := fun hn => ih (j + 1) (by omega) (by omega) (fun e he => by
        by_cases z : e = j
        · rw [z]; exact hn
        · exact hno e (by omega))
      by_cases z1 : eK j = nI k
      · rw [if_pos z1]
        by_cases z2 : eX j = x
        · rw [if_pos z2]
          by_cases z3 : eY j = y
          · rw [if_pos z3]
            obtain ⟨k', v, b1, b2, b3, b4⟩ := hR.2 j hlt
            have ek : k' = k := (nI_eq (by omega) (by omega)).mp (b3.symm.trans z1)
            rw [z2, z3, ek] at b2
            rw [b4]
            have e1 : tvV T nv k x y = v := by unfold tvV; rw [b2]; rfl
            have e2 : tvN T nv k x y = nv := by unfold tvN; rw [b2]
            have e3 : tvT T nv k x y = T := by unfold tvT; rw [b2]
            rw [e1, e2, e3]
            exact ⟨_, _, _, _, m, rfl, hR, by omega⟩
          · rw [if_neg z3]; exact next (fun t => z3 t.2.2)
        · rw [if_neg z2]; exact next (fun t => z2 t.2.1)
      · rw [if_neg z1]; exact next (fun t => z1 t.1)
theorem s_table {n : Nat} (hn : 24 < n) {T : VT} {nv m k : Nat} {eK eV eX eY : Nat → Int32} (x y : Int32) (hm : m < 24) (hk : k < 15) (hR : RelT T nv eK eV eX eY m) :
    ∃ eK' eV' eX' eY' m', f_X7_tableValue n eK eV eX eY (nI m) (nI nv) (nI k) x y = some (nI (tvV T nv k x y), eK', eV', eX', eY', nI m', nI (tvN T nv k x y)) ∧ RelT (tvT T nv k x y) (tvN T nv k x y) eK' eV' eX' eY' m' ∧ m' ≤ m + 1 :=
  s_table3 n hm hk hR n 0 (by omega) (by omega) (fun e he => by omega)
