/-- the reference's key (k, X, Y) in a block that began at bb is the class's key (k, x, y) -/
def KeyOf (bb k : Nat) (X Y x y : Int32) : Prop :=
  (k = 1 ∧ x = X ∧ Y = 0 ∧ y = 0) ∨ (k = 4 ∧ ∃ p q, p < 1000 ∧ q < 1000 ∧ X = nI (bb + p) ∧ Y = nI (bb + q) ∧ x = nI p ∧ y = nI q) ∨
  ((k = 3 ∨ k = 5) ∧ ∃ p q, p < 1000 ∧ q < 1000 ∧ X = nI (bb + p) ∧ Y = nI (bb + q) ∧ x = nI (min p q) ∧ y = nI (max p q))
theorem nIj {a b : Nat} (h : nI a = nI b) (ha : a < 2 ^ 31) (hb : b < 2 ^ 31) : a = b := (nI_eq ha hb).mp h
theorem key_uniq {bb k : Nat} {X Y x y O W x' y' : Int32} (hbb : bb < 1000) (h : KeyOf bb k X Y x y) (h' : KeyOf bb k O W x' y') : ((O = X ∧ W = Y) ∨ ((k = 3 ∨ k = 5) ∧ O = Y ∧ W = X)) ↔ (x' = x ∧ y' = y) := by
  rcases h with ⟨k1, a1, a2, a3⟩ | ⟨k1, p, q, hp, hq, a1, a2, a3, a4⟩ | ⟨k1, p, q, hp, hq, a1, a2, a3, a4⟩
  · rcases h' with ⟨_, b1, b2, b3⟩ | ⟨k2, _⟩ | ⟨k2, _⟩
    · constructor
      · rintro (h | h)
        · exact ⟨by rw [b1, a1, h.1], by rw [b3, a3]⟩
        · omega
      · intro h
        exact Or.inl ⟨by rw [← b1, ← a1, h.1], by rw [b2, a2]⟩
    · omega
    · omega
  · rcases h' with ⟨k2, _⟩ | ⟨_, p', q', hp', hq', b1, b2, b3, b4⟩ | ⟨k2, _⟩
    · omega
    · constructor
      · rintro (h | h)
        · have e1 : p' = p := by have := nIj (b1.symm.trans (h.1.trans a1)) (by omega) (by omega); omega
          have e2 : q' = q := by have := nIj (b2.symm.trans (h.2.trans a2)) (by omega) (by omega); omega
          exact ⟨by rw [b3, a3, e1], by rw [b4, a4, e2]⟩
        · omega
      · intro h
        have e1 : p' = p := nIj (b3.symm.trans (h.1.trans a3)) (by omega) (by omega)
        have e2 : q' = q := nIj (b4.symm.trans (h.2.trans a4)) (by omega) (by omega)
        exact Or.inl ⟨by rw [b1, a1, e1], by rw [b2, a2, e2]⟩
    · omega
  · rcases h' with ⟨k2, _⟩ | ⟨k2, _⟩ | ⟨_, p', q', hp', hq', b1, b2, b3, b4⟩
    · omega
    · omega
    · constructor
      · rintro (h | h)
        · have e1 : p' = p := by have := nIj (b1.symm.trans (h.1.trans a1)) (by omega) (by omega); omega
          have e2 : q' = q := by have := nIj (b2.symm.trans (h.2.trans a2)) (by omega) (by omega); omega
          exact ⟨by rw [b3, a3, e1, e2], by rw [b4, a4, e1, e2]⟩
        · have e1 : p' = q := by have := nIj (b1.symm.trans (h.2.1.trans a2)) (by omega) (by omega); omega
          have e2 : q' = p := by have := nIj (b2.symm.trans (h.2.2.trans a1)) (by omega) (by omega); omega
          exact ⟨by rw [b3, a3, e1, e2, Nat.min_comm], by rw [b4, a4, e1, e2, Nat.max_comm]⟩
      · intro h
        have e1 : min p' q' = min p q := nIj (b3.symm.trans (h.1.trans a3)) (by omega) (by omega)
        have e2 : max p' q' = max p q := nIj (b4.symm.trans (h.2.trans a4)) (by omega) (by omega)
        by_cases z : p' = p
        · have z2 : q' = q := by omega
          exact Or.inl ⟨by rw [b1, a1, z], by rw [b2, a2, z2]⟩
        · have z1 : p' = q := by omega
          have z2 : q' = p := by omega
          exact Or.inr ⟨k1, by rw [b1, a2, z1], by rw [b2, a1, z2]⟩
def RelV (T : VT) (nv bb : Nat) (vK vO vW : Nat → Int32) : Prop :=
  (∀ k x y v, T k x y = some v → k < 15 ∧ v < nv ∧ vK (bb + v) = nI k ∧ KeyOf bb k (vO (bb + v)) (vW (bb + v)) x y) ∧
  (∀ v, v < nv → vK (bb + v) = 0 ∨ ∃ k x y, T k x y = some v)
theorem key_k {bb k : Nat} {X Y x y : Int32} (h : KeyOf bb k X Y x y) : k = 1 ∨ k = 3 ∨ k = 4 ∨ k = 5 := by
  rcases h with h | h | h
  · exact Or.inl h.1
  · exact Or.inr (Or.inr (Or.inl h.1))
  · rcases h.1 with h | h
    · exact Or.inr (Or.inl h)
    · exact Or.inr (Or.inr (Or.inr h))
theorem rel_match {T : VT} {nv bb k v : Nat} {vK vO vW : Nat → Int32} {X Y x y : Int32} (hbb : bb < 1000) (hR : RelV T nv bb vK vO vW) (hK : KeyOf bb k X Y x y) (hv : v < nv) : (vK (bb + v) = nI k ∧ ((vO (bb + v) = X ∧ vW (bb + v) = Y) ∨ ((k = 3 ∨ k = 5) ∧ vO (bb + v) = Y ∧ vW (bb + v) = X))) ↔ T k x y = some v := by
  have hk := key_k hK
  constructor
  · rintro ⟨h1, h2⟩
    rcases hR.2 v hv with h | ⟨k', x', y', h⟩
    · rw [h] at h1
      exact absurd (nIj (a := 0) (pn_0.symm.trans h1) (by omega) (by omega)) (by omega)
    · obtain ⟨a1, a2, a3, a4⟩ := hR.1 k' x' y' v h
      have ek : k' = k := nIj (a3.symm.trans h1) (by omega) (by omega)
      rw [ek] at a4 h
      obtain ⟨e1, e2⟩ := (key_uniq hbb hK a4).mp h2
      rw [e1, e2] at h
      exact h
  · intro h
    obtain ⟨a1, a2, a3, a4⟩ := hR.1 k x y v h
    exact ⟨a3, (key_uniq hbb hK a4).mpr ⟨rfl, rfl⟩⟩
theorem m_newValue {vK vO vW : Nat → Int32} {vs : Nat} (h : vs < 256) (k x y : Int32) : f_X9_newValue vK vO vW (nI vs) k x y = some (nI vs, upd vK vs k, upd vO vs x, upd vW vs y, nI (vs + 1)) := by
  unfold f_X9_newValue
  have g : ∀ {α : Type} {x : Option α}, gd (nI vs) 256 x = x := pn_gd h (by omega)
  simp only [g]
  rw [nI_clamp (by omega), pn_sp, pn_s]
theorem rel_add {T : VT} {nv bb k : Nat} {vK vO vW : Nat → Int32} {X Y x y : Int32} (hR : RelV T nv bb vK vO vW) (hK : KeyOf bb k X Y x y) (hT : T k x y = none) : RelV (fun k' x' y' => if k' = k ∧ x' = x ∧ y' = y then some nv else T k' x' y') (nv + 1) bb (upd vK (bb + nv) (nI k)) (upd vO (bb + nv) X) (upd vW (bb + nv) Y) := by
  have hk := key_k hK
  constructor
  · intro k' x' y' v h
    have h : (if k' = k ∧ x' = x ∧ y' = y then some nv else T k' x' y') = some v := h
    by_cases z : k' = k ∧ x' = x ∧ y' = y
    · rw [if_pos z] at h
      have : v = nv := (Option.some.inj h).symm
      rw [this, upd_s, upd_s, upd_s, z.1, z.2.1, z.2.2]
      exact ⟨by omega, by omega, rfl, hK⟩
    · rw [if_neg z] at h
      obtain ⟨a1, a2, a3, a4⟩ := hR.1 k' x' y' v h
      have ne : bb + v ≠ bb + nv := by omega
      rw [upd_n _ ne, upd_n _ ne, upd_n _ ne]
      exact ⟨a1, by omega, a3, a4⟩
  · intro v hv
    by_cases z : v = nv
    · exact Or.inr ⟨k, x, y, by rw [z]; exact if_pos ⟨rfl, rfl, rfl⟩⟩
    · rw [upd_n _ (by omega)]
      rcases hR.2 v (by omega) with h | ⟨k', x', y', h⟩
      · exact Or.inl h
      · refine Or.inr ⟨k', x', y', (if_neg (fun t => ?_)).trans h⟩
        rw [t.1, t.2.1, t.2.2, hT] at h
        cases h
theorem rel_new {T : VT} {nv bb : Nat} {vK vO vW : Nat → Int32} (hR : RelV T nv bb vK vO vW) : RelV T (nv + 1) bb (upd vK (bb + nv) 0) (upd vO (bb + nv) 0) (upd vW (bb + nv) 0) := by
  constructor
  · intro k x y v h
    obtain ⟨a1, a2, a3, a4⟩ := hR.1 k x y v h
    have ne : bb + v ≠ bb + nv := by omega
    rw [upd_n _ ne, upd_n _ ne, upd_n _ ne]
    exact ⟨a1, by omega, a3, a4⟩
  · intro v hv
    by_cases z : v = nv
    · rw [z, upd_s]; exact Or.inl rfl
    · rw [upd_n _ (by omega)]
      exact hR.2 v (by omega)
theorem m_valueOf6 (n : Nat) {T : VT} {nv bb k : Nat} {vK vO vW : Nat → Int32} {X Y x y : Int32} (hbb : bb + nv < 256) (hR : RelV T nv bb vK vO vW) (hK : KeyOf bb k X Y x y) : ∀ (kk j : Nat), j ≤ nv → nv - j < kk → (∀ v, v < j → ¬ T k x y = some v) →
    ∃ vK' vO' vW', f_X9_valueOf_6 n kk vK vO vW (nI (bb + nv)) (nI bb) (nI k) X Y (nI (bb + j)) = some (nI (bb + tvV T nv k x y), vK', vO', vW', nI (bb + tvN T nv k x y)) ∧ RelV (tvT T nv k x y) (tvN T nv k x y) bb vK' vO' vW' := by
  have hk := key_k hK
  have hk15 : k < 15 := by omega
  intro kk
  induction kk with
  | zero => intro j h1 h2; omega
  | succ kk ih =>
    intro j hj hkk hno
    rw [f_X9_valueOf_6]
    by_cases e : j = nv
    · subst e
      have hT : T k x y = none := by
        cases e2 : T k x y with
        | none => rfl
        | some v => exact absurd e2 (hno v (hR.1 k x y v e2).2.1)
      rw [if_pos (nI_le (Nat.le_refl _) (by omega)), m_newValue hbb]
      simp only [Option.bind_some]
      have e1 : tvV T j k x y = j := by unfold tvV; rw [hT]; rfl
      have e2 : tvN T j k x y = j + 1 := by unfold tvN; rw [hT]
      have e3 : tvT T j k x y = fun k' x' y' => if k' = k ∧ x' = x ∧ y' = y then some j else T k' x' y' := by unfold tvT; rw [hT]
      rw [e1, e2, e3]
      exact ⟨_, _, _, rfl, rel_add hR hK hT⟩
    · have hlt : j < nv := by omega
      have g : ∀ {α : Type} {x : Option α}, gd (nI (bb + j)) 256 x = x := pn_gd (by omega) (by omega)
      have hm := rel_match (v := j) (show bb < 1000 by omega) hR hK hlt
      have hcl : (nI (bb + j)).toNatClampNeg = bb + j := nI_clamp (by omega)
      have next : ¬ T k x y = some j → ∃ vK' vO' vW', f_X9_valueOf_6 n kk vK vO vW (nI (bb + nv)) (nI bb) (nI k) X Y (nI (bb + (j + 1))) = some (nI (bb + tvV T nv k x y), vK', vO', vW', nI (bb + tvN T nv k x y)) ∧ RelV (tvT T nv k x y) (tvN T nv k x y) bb vK' vO' vW' := fun hn => ih (j + 1) (by omega) (by omega) (fun v hv => by
        by_cases z : v = j
        · rw [z]; exact hn
        · exact hno v (by omega))
      have found : T k x y = some j → ∃ vK' vO' vW', some (nI (bb + j), vK, vO, vW, nI (bb + nv)) = some (nI (bb + tvV T nv k x y), vK', vO', vW', nI (bb + tvN T nv k x y)) ∧ RelV (tvT T nv k x y) (tvN T nv k x y) bb vK' vO' vW' := fun h => by
        have e1 : tvV T nv k x y = j := by unfold tvV; rw [h]; rfl
        have e2 : tvN T nv k x y = nv := by unfold tvN; rw [h]
        have e3 : tvT T nv k x y = T := by unfold tvT; rw [h]
        rw [e1, e2, e3]
        exact ⟨_, _, _, rfl, hR⟩
      rw [if_neg (nI_ge (by omega) (by omega))]
      unfold f_X9_valueOf_42 f_X9_valueOf_54 f_X9_valueOf_81
      simp only [g, hcl, pn_s, ki3 hk15, ki5 hk15, show ∀ a b : Nat, a + b + 1 = a + (b + 1) from fun a b => by omega]
      have n10 : ¬ (1 : Int32) = 0 := by decide
      by_cases zK : vK (bb + j) = nI k
      · by_cases s1 : vO (bb + j) = X ∧ vW (bb + j) = Y
        · have hf := found (hm.mp ⟨zK, Or.inl s1⟩)
          simp only [zK, s1.1, s1.2, if_true, if_neg n10]
          repeat' split
          all_goals exact hf
        · by_cases s2 : (k = 3 ∨ k = 5) ∧ vO (bb + j) = Y ∧ vW (bb + j) = X
          · have hf := found (hm.mp ⟨zK, Or.inr s2⟩)
            simp only [zK, s2.2.1, s2.2.2, if_true, if_neg n10]
            rcases s2.1 with h | h <;> simp only [h, if_true, if_neg (show ¬ 5 = 3 by decide)] <;> (repeat' split) <;> simp only [← h] <;> first | exact hf | exact absurd rfl ‹¬ _› | skip
          · have hx := next (fun t => by
              rcases (hm.mpr t).2 with h | h
              · exact s1 h
              · exact s2 h)
            have c1 : ∀ {α : Type} {p q : α}, (if vO (bb + j) = X then if vW (bb + j) = Y then p else q else q) = q := fun {α p q} => by
              by_cases a1 : vO (bb + j) = X
              · rw [if_pos a1, if_neg (fun t => s1 ⟨a1, t⟩)]
              · rw [if_neg a1]
            rw [c1]
            simp only [zK, if_true]
            by_cases h3 : k = 3 ∨ k = 5
            · have c2 : ∀ {α : Type} {p q : α}, (if vO (bb + j) = Y then if vW (bb + j) = X then p else q else q) = q := fun {α p q} => by
                by_cases a1 : vO (bb + j) = Y
                · rw [if_pos a1, if_neg (fun t => s2 ⟨h3, a1, t⟩)]
                · rw [if_neg a1]
              simp only [c2]
              repeat' split
              all_goals exact hx
            · repeat' split
              all_goals first | exact hx | (exfalso; omega)
      · have hx := next (fun t => zK (hm.mpr t).1)
        simp only [zK, if_false]
        repeat' split
        all_goals exact hx
theorem m_valueOf {n : Nat} (hn : 256 < n) {T : VT} {nv bb k : Nat} {vK vO vW : Nat → Int32} {X Y x y : Int32} (hbb : bb + nv < 256) (hR : RelV T nv bb vK vO vW) (hK : KeyOf bb k X Y x y) :
    ∃ vK' vO' vW', f_X9_valueOf n vK vO vW (nI (bb + nv)) (nI bb) (nI k) X Y = some (nI (bb + tvV T nv k x y), vK', vO', vW', nI (bb + tvN T nv k x y)) ∧ RelV (tvT T nv k x y) (tvN T nv k x y) bb vK' vO' vW' :=
  m_valueOf6 n hbb hR hK n 0 (by omega) (by omega) (fun v hv => by omega)
