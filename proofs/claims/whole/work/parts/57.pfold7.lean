/-! FOLD: the reference. -/
def RelM (c : Nat) (S : FS) (kn nu re : Nat → Int32) : Prop := ∀ i, i ≤ c → match S i with
  | none => re i = 0
  | some q => re i = 1 ∧ RowM q kn nu i
section FM
variable {n c i k t : Nat} {S S0 : FS} {fa fb fd fk : Nat → Int32} {q p : RQ}
theorem m_come46 {kn nu re : Nat → Int32} {ch : Int32} (hi : i < 24) (hf : fk (100 + i) = nI k) (w : WI c k (fd (100 + i)) (fa (100 + i)) (fb (100 + i))) (hrow : RowM q kn nu i) (kk : Nat) {j : Nat} (hj : j < 8) :
    ∃ nv, (∀ v, pst q k (fd (100 + i)) (fa (100 + i)) (fb (100 + i)) j = some v → nv = v) ∧
    f_X9_come_13 n (kk + 1) fa fb fd fk kn nu re ch (nI t) (nI i) (nI k) (nI j) = f_X9_come_100 n (fun f0_known' f0_number' f0_reached' v0_changed' x1' x2' x3' x4' => f_X9_come_13 n kk fa fb fd fk f0_known' f0_number' f0_reached' v0_changed' x1' x2' x3' x4') fa fb fd fk kn nu re ch (nI t) (nI i) (nI k) (nI j) (b2i (pst q k (fd (100 + i)) (fa (100 + i)) (fb (100 + i)) j).isSome) nv := by
  have hk : k < 15 := by have := w.1; omega
  have e100 : ∀ {α : Type} {x : Option α}, gd (nI (100 + i)) 400 x = x := pn_gd (by omega) (by omega)
  rw [f_X9_come_13, if_neg (fun z => by have := (le8 (by omega)).mp z; omega), m_writes k hk]
  have hw0 : (k == 13) = false := by have := w.1; simp; omega
  have hw1 : (wrK k || k == 13) = wrK k := by rw [hw0, Bool.or_false]
  rw [hw1]
  simp only [Option.bind_some]
  have other : ∀ (K : (Nat → Int32) → (Nat → Int32) → (Nat → Int32) → Int32 → Int32 → Int32 → Int32 → Int32 → Option ((Nat → Int32) × (Nat → Int32) × (Nat → Int32) × Int32)), f_X9_come_46 n K fa fb fd fk kn nu re ch (nI t) (nI i) (nI k) (nI j) 0 = f_X9_come_100 n K fa fb fd fk kn nu re ch (nI t) (nI i) (nI k) (nI j) (b2i (q j).isSome) (nu (8 * i + j)) := fun K => by
    unfold f_X9_come_46
    rw [if_pos rfl, pn_8m, nI_add, pn_gd (by omega) (by omega), nI_clamp (by omega), (hrow j hj).1]
    unfold f_X9_come_73
    rw [if_pos rfl, pn_8m, nI_add, pn_gd (by omega) (by omega), nI_clamp (by omega)]
  cases e : wrK k with
  | false =>
    rw [if_pos (show b2i false = 0 by decide), other]
    have ep : pst q k (fd (100 + i)) (fa (100 + i)) (fb (100 + i)) = q := by unfold pst; rw [if_neg (by rw [e]; decide)]
    rw [ep]
    exact ⟨_, (hrow j hj).2, rfl⟩
  | true =>
    obtain ⟨x, hx, ex⟩ := w.2.1 e
    have hp : pst q k (fd (100 + i)) (fa (100 + i)) (fb (100 + i)) j = if j = x then gv q k (fa (100 + i)) (fb (100 + i)) else q j := by
      unfold pst; rw [if_pos e, ex, nN_nI hx]
    rw [if_neg (show ¬ b2i true = 0 by decide), pn_h, e100, nI_clamp (by omega), hp, ex]
    by_cases z : x = j
    · subst z
      rw [if_pos rfl, if_pos rfl]
      unfold f_X9_come_46
      rw [if_neg (show ¬ (1 : Int32) = 0 by decide), m_gives (by omega) hf w hrow]
      simp only [Option.bind_some]
      unfold f_X9_come_73
      rw [if_neg (show ¬ (1 : Int32) = 0 by decide), m_given (by omega) hf w hrow]
      simp only [Option.bind_some]
      exact ⟨_, fun v hv => by rw [hv]; rfl, rfl⟩
    · rw [if_neg (fun h => z ((nI_eq (by omega) (by omega)).mp h)), other, if_neg (fun h => z h.symm)]
      exact ⟨_, (hrow j hj).2, rfl⟩
theorem m_come_new {kn0 nu0 re : Nat → Int32} (hi : i < 24) (ht : t < 26) (hti : t ≠ i) (hf : fk (100 + i) = nI k) (w : WI c k (fd (100 + i)) (fa (100 + i)) (fb (100 + i))) (hr : re t = 0) (ch : Int32) : ∀ (kk j : Nat) {kn nu : Nat → Int32}, j ≤ 8 → 8 - j < kk → RowM q kn nu i → (∀ x, ¬ (8 * t ≤ x ∧ x < 8 * t + 8) → kn x = kn0 x ∧ nu x = nu0 x) →
    (∀ r, r < j → kn (8 * t + r) = b2i (pst q k (fd (100 + i)) (fa (100 + i)) (fb (100 + i)) r).isSome ∧ ∀ v, pst q k (fd (100 + i)) (fa (100 + i)) (fb (100 + i)) r = some v → nu (8 * t + r) = v) →
    ∃ kn' nu', f_X9_come_13 n kk fa fb fd fk kn nu re ch (nI t) (nI i) (nI k) (nI j) = some (kn', nu', upd re t 1, 1) ∧ (∀ x, ¬ (8 * t ≤ x ∧ x < 8 * t + 8) → kn' x = kn0 x ∧ nu' x = nu0 x) ∧ RowM (pst q k (fd (100 + i)) (fa (100 + i)) (fb (100 + i))) kn' nu' t := by
  intro kk
  induction kk with
  | zero => intro j kn nu h1 h2; omega
  | succ kk ih =>
    intro j kn nu hj hk hrow hout hdone
    by_cases e : j = 8
    · rw [f_X9_come_13, if_pos ((le8 (by omega)).mpr (by omega))]
      refine ⟨kn, nu, ?_, hout, fun r hr => hdone r (by omega)⟩
      unfold f_X9_come_209
      rw [nI_clamp (by omega), if_pos hr, pn_gd ht (by omega), gb_in (Or.inr rfl), pn_gd ht (by omega), nb_v (Or.inr rfl)]
      split <;> rfl
    · have hlt : j < 8 := by omega
      obtain ⟨nv, hnv, h1⟩ := m_come46 (n := n) (t := t) (re := re) (ch := ch) hi hf w hrow kk hlt
      rw [h1]
      unfold f_X9_come_100
      rw [pn_gd ht (by omega), nI_clamp (show t < 2 ^ 31 by omega), if_pos hr]
      simp only [pn_8m, nI_add, pn_s]
      rw [pn_gd (by omega) (by omega), pn_gd (by omega) (by omega), nI_clamp (show 8 * t + j < 2 ^ 31 by omega), nb_v (b2i_01 _)]
      refine ih (j + 1) (by omega) (by omega) ?_ ?_ ?_
      · intro r hr
        rw [upd_n _ (by omega), upd_n _ (by omega)]
        exact hrow r hr
      · intro x hx
        rw [upd_n _ (by omega), upd_n _ (by omega)]
        exact hout x hx
      · intro r hr
        by_cases z : r = j
        · subst z
          rw [upd_s, upd_s]
          exact ⟨rfl, hnv⟩
        · rw [upd_n _ (by omega), upd_n _ (by omega)]
          exact hdone r (by omega)
theorem m_come_old {kn0 nu re : Nat → Int32} (hi : i < 24) (ht : t < 26) (hf : fk (100 + i) = nI k) (w : WI c k (fd (100 + i)) (fa (100 + i)) (fb (100 + i))) (hti : t = i → p = q ∧ pst q k (fd (100 + i)) (fa (100 + i)) (fb (100 + i)) = q) (hr : re t = 1) (hp : RowM p kn0 nu t) (ch0 : Int32) (hch0 : ch0 = 0 ∨ ch0 = 1) : ∀ (kk j : Nat) {kn : Nat → Int32} {ch : Int32}, j ≤ 8 → 8 - j < kk → RowM q kn nu i → (∀ x, ¬ (8 * t ≤ x ∧ x < 8 * t + 8) → kn x = kn0 x) →
    (∀ r, r < j → kn (8 * t + r) = b2i (jn p (pst q k (fd (100 + i)) (fa (100 + i)) (fb (100 + i))) r).isSome) → (∀ r, j ≤ r → r < 8 → kn (8 * t + r) = kn0 (8 * t + r)) →
    ((ch = ch0 ∧ ∀ r, r < j → jn p (pst q k (fd (100 + i)) (fa (100 + i)) (fb (100 + i))) r = p r) ∨ (ch = 1 ∧ ∃ r, ¬ jn p (pst q k (fd (100 + i)) (fa (100 + i)) (fb (100 + i))) r = p r)) →
    ∃ kn' ch', f_X9_come_13 n kk fa fb fd fk kn nu re ch (nI t) (nI i) (nI k) (nI j) = some (kn', nu, upd re t 1, ch') ∧ (∀ x, ¬ (8 * t ≤ x ∧ x < 8 * t + 8) → kn' x = kn0 x) ∧ RowM (jn p (pst q k (fd (100 + i)) (fa (100 + i)) (fb (100 + i)))) kn' nu t ∧
      ((ch' = ch0 ∧ ∀ r, r < 8 → jn p (pst q k (fd (100 + i)) (fa (100 + i)) (fb (100 + i))) r = p r) ∨ (ch' = 1 ∧ ∃ r, ¬ jn p (pst q k (fd (100 + i)) (fa (100 + i)) (fb (100 + i))) r = p r)) := by
  intro kk
  induction kk with
  | zero => intro j kn ch h1 h2; omega
  | succ kk ih =>
    intro j kn ch hj hk hrow hout hdone hrest hch
    have hch01 : ch = 0 ∨ ch = 1 := by
      rcases hch with h | h
      · rw [h.1]; exact hch0
      · exact Or.inr h.1
    by_cases e : j = 8
    · rw [f_X9_come_13, if_pos ((le8 (by omega)).mpr (by omega))]
      refine ⟨kn, ch, ?_, hout, fun r hr => ⟨hdone r (by omega), fun v hv => (hp r hr).2 v (jn_some hv).1⟩, ?_⟩
      · unfold f_X9_come_209
        have g26 : ∀ {α : Type} {x : Option α}, gd (nI t) 26 x = x := pn_gd ht (by omega)
        simp only [g26]
        rw [nI_clamp (by omega), nb_v (Or.inr rfl)]
        rcases hch01 with h | h
        · rw [if_pos h, if_neg (by rw [hr]; decide), h, gb_in (Or.inl rfl)]
        · rw [if_neg (by rw [h]; decide), h, gb_in (Or.inr rfl)]
      · rw [e] at hch; exact hch
    · have hlt : j < 8 := by omega
      obtain ⟨nv, hnv, h1⟩ := m_come46 (n := n) (t := t) (re := re) (ch := ch) hi hf w hrow kk hlt
      rw [h1]
      generalize hQ : pst q k (fd (100 + i)) (fa (100 + i)) (fb (100 + i)) = q' at *
      unfold f_X9_come_100
      have g208 : ∀ {α : Type} {x : Option α}, gd (nI (8 * t + j)) 208 x = x := pn_gd (by omega) (by omega)
      rw [pn_gd ht (by omega), nI_clamp (show t < 2 ^ 31 by omega), if_neg (by rw [hr]; decide)]
      simp only [pn_8m, nI_add, pn_s, g208]
      rw [nI_clamp (show 8 * t + j < 2 ^ 31 by omega), hrest j (Nat.le_refl _) hlt, (hp j hlt).1]
      -- no change at j
      have stay : jn p q' j = p j → ∃ kn' ch', f_X9_come_13 n kk fa fb fd fk kn nu re ch (nI t) (nI i) (nI k) (nI (j + 1)) = some (kn', nu, upd re t 1, ch') ∧ (∀ x, ¬ (8 * t ≤ x ∧ x < 8 * t + 8) → kn' x = kn0 x) ∧ RowM (jn p q') kn' nu t ∧ ((ch' = ch0 ∧ ∀ r, r < 8 → jn p q' r = p r) ∨ (ch' = 1 ∧ ∃ r, ¬ jn p q' r = p r)) := fun hs => by
        refine ih (j + 1) (by omega) (by omega) hrow hout (fun r hr => ?_) (fun r h1 h2 => hrest r (by omega) h2) ?_
        · by_cases z : r = j
          · rw [z, hs, hrest j (Nat.le_refl _) hlt]; exact (hp j hlt).1
          · exact hdone r (by omega)
        · rcases hch with h | h
          · refine Or.inl ⟨h.1, fun r hr => ?_⟩
            by_cases z : r = j
            · rw [z]; exact hs
            · exact h.2 r (by omega)
          · exact Or.inr h
      have move : ¬ jn p q' j = p j → ∃ kn' ch', f_X9_come_168 n (fun f0_known' f0_number' f0_reached' v0_changed' x1' x2' x3' x4' => f_X9_come_13 n kk fa fb fd fk f0_known' f0_number' f0_reached' v0_changed' x1' x2' x3' x4') fa fb fd fk kn nu re ch (nI t) (nI i) (nI k) (nI j) (nI (8 * t + j)) = some (kn', nu, upd re t 1, ch') ∧ (∀ x, ¬ (8 * t ≤ x ∧ x < 8 * t + 8) → kn' x = kn0 x) ∧ RowM (jn p q') kn' nu t ∧ ((ch' = ch0 ∧ ∀ r, r < 8 → jn p q' r = p r) ∨ (ch' = 1 ∧ ∃ r, ¬ jn p q' r = p r)) := fun hs => by
        have hne : t ≠ i := fun et => by
          obtain ⟨a1, a2⟩ := hti et
          rw [a1, a2] at hs
          exact hs (by unfold jn; rw [if_pos rfl])
        have hnone : jn p q' j = none := by
          cases ee : jn p q' j with
          | none => rfl
          | some v => exact absurd (ee.trans (jn_some ee).1.symm) hs
        unfold f_X9_come_168
        rw [g208, nI_clamp (show 8 * t + j < 2 ^ 31 by omega), nb_v (Or.inl rfl), pn_s]
        refine ih (j + 1) (by omega) (by omega) (fun r hr => ?_) (fun x hx => ?_) (fun r hr => ?_) (fun r h1 h2 => ?_) (Or.inr ⟨rfl, j, hs⟩)
        · rw [upd_n _ (by omega)]; exact hrow r hr
        · rw [upd_n _ (by omega)]; exact hout x hx
        · by_cases z : r = j
          · rw [z, upd_s, hnone]; rfl
          · rw [upd_n _ (by omega)]; exact hdone r (by omega)
        · rw [upd_n _ (by omega)]; exact hrest r (by omega) h2
      cases e1 : p j with
      | none =>
        rw [Option.isSome_none, if_pos (show b2i false = 0 by decide)]
        exact stay (by rw [e1]; unfold jn; rw [e1]; split <;> rfl)
      | some v =>
        rw [Option.isSome_some, if_neg (show ¬ b2i true = 0 by decide)]
        cases e2 : q' j with
        | none =>
          rw [Option.isSome_none, if_pos (show b2i false = 0 by decide)]
          exact move (by rw [e1]; unfold jn; rw [e1, e2, if_neg (by simp)]; simp)
        | some u =>
          rw [Option.isSome_some, if_neg (show ¬ b2i true = 0 by decide), hnv u e2, (hp j hlt).2 v e1]
          by_cases z : u = v
          · rw [if_pos z]
            exact stay (by rw [e1]; unfold jn; rw [e1, e2, z, if_pos rfl])
          · rw [if_neg z]
            exact move (by rw [e1]; unfold jn; rw [e1, e2, if_neg (fun h => z (Option.some.inj h).symm)]; simp)
theorem m_come {kn nu re : Nat → Int32} {ch : Int32} (hn : 8 < n) (hc : c ≤ 24) (hi : i < c) (ht : t ≤ c) (hf : fk (100 + i) = nI k) (w : WI c k (fd (100 + i)) (fa (100 + i)) (fb (100 + i))) (hself : t = i → wrK k = false) (hS : TS S) (hSi : S i = some q) (hR : RelM c S kn nu re) (hU : CU (c + 1) S0 ch S) :
    ∃ kn' nu' re' ch', f_X9_come n fa fb fd fk kn nu re ch (nI t) (nI i) = some (kn', nu', re', ch') ∧ RelM c (cm S t (pst q k (fd (100 + i)) (fa (100 + i)) (fb (100 + i)))) kn' nu' re' ∧ CU (c + 1) S0 ch' (cm S t (pst q k (fd (100 + i)) (fa (100 + i)) (fb (100 + i)))) := by
  have e100 : ∀ {α : Type} {x : Option α}, gd (nI (100 + i)) 400 x = x := pn_gd (by omega) (by omega)
  have hrow : RowM q kn nu i := by
    have := hR i (by omega)
    rw [hSi] at this
    exact this.2
  have hmu := cm_mu (q := pst q k (fd (100 + i)) (fa (100 + i)) (fb (100 + i))) hS (show t < 26 by omega)
  have hle : mu (cm S t (pst q k (fd (100 + i)) (fa (100 + i)) (fb (100 + i)))) ≤ mu S0 := Nat.le_trans (cm_le hS (by omega)) hU.1
  unfold f_X9_come
  rw [pn_h, e100, nI_clamp (by omega), hf]
  have hRt := hR t ht
  cases e : S t with
  | none =>
    rw [e] at hRt
    have hRt : re t = 0 := hRt
    have hti : t ≠ i := fun z => by rw [z, hSi] at e; cases e
    obtain ⟨kn', nu', h1, h2, h3⟩ := m_come_new (n := n) (kn0 := kn) (nu0 := nu) (by omega) (by omega) hti hf w hRt ch n 0 (by omega) (by omega) hrow (fun x _ => ⟨rfl, rfl⟩) (fun r hr => by omega)
    refine ⟨kn', nu', _, _, h1, ?_, hle, Or.inr ⟨rfl, ?_⟩⟩
    · intro j hj
      unfold cm
      by_cases z : j = t
      · subst z
        rw [if_pos rfl, e]
        exact ⟨upd_s _ _ _, h3⟩
      · rw [if_neg z, upd_n _ z]
        have := hR j hj
        cases e3 : S j with
        | none => rw [e3] at this; exact this
        | some p =>
          rw [e3] at this
          refine ⟨this.1, fun r hr => ?_⟩
          obtain ⟨a1, a2⟩ := h2 (8 * j + r) (by omega)
          rw [a1, a2]
          exact this.2 r hr
    · rcases hmu with h | h
      · exfalso
        have h2 := congrFun h t
        unfold cm at h2
        rw [if_pos rfl, e] at h2
        cases h2
      · exact Nat.lt_of_lt_of_le h hU.1
  | some p =>
    rw [e] at hRt
    have hRt : re t = 1 ∧ RowM p kn nu t := hRt
    obtain ⟨kn', ch', h1, h2, h3, h4⟩ := m_come_old (n := n) (p := p) (q := q) (by omega) (by omega) hf w (fun z => ⟨by rw [z, hSi] at e; exact (Option.some.inj e).symm, by unfold pst; rw [if_neg (by rw [hself z]; decide)]⟩) hRt.1 hRt.2 ch (ch_0 hU) n 0 (by omega) (by omega) hrow (fun x _ => rfl) (fun r hr => by omega) (fun r _ _ => rfl) (Or.inl ⟨rfl, fun r hr => by omega⟩)
    refine ⟨kn', nu, _, ch', h1, ?_, hle, ?_⟩
    · intro j hj
      unfold cm
      by_cases z : j = t
      · subst z
        rw [if_pos rfl, e]
        exact ⟨upd_s _ _ _, h3⟩
      · rw [if_neg z, upd_n _ z]
        have := hR j hj
        cases e3 : S j with
        | none => rw [e3] at this; exact this
        | some p =>
          rw [e3] at this
          refine ⟨this.1, fun r hr => ?_⟩
          rw [h2 (8 * j + r) (by omega)]
          exact this.2 r hr
    · generalize hQ : pst q k (fd (100 + i)) (fa (100 + i)) (fb (100 + i)) = q' at *
      have hcm : cm S t q' = S ↔ jn p q' = p := by
        constructor
        · intro h
          have h2 := congrFun h t
          unfold cm at h2
          rw [if_pos rfl, e] at h2
          exact Option.some.inj h2
        · intro e4
          funext j
          unfold cm
          by_cases e5 : j = t
          · rw [if_pos e5, e5, e]; show some (jn p q') = some p; rw [e4]
          · rw [if_neg e5]
      rcases h4 with h | h
      · have hj : jn p q' = p := by
          funext r
          by_cases hr : r < 8
          · exact h.2 r hr
          · rw [hS t p e r (by omega), jn_T q' (hS t p e) r (by omega)]
        rw [hcm.mpr hj, h.1]
        exact hU.2
      · refine Or.inr ⟨h.1, ?_⟩
        rcases hmu with g | g
        · obtain ⟨r, hr⟩ := h.2
          exact absurd (congrFun (hcm.mp g) r) hr
        · exact Nat.lt_of_lt_of_le g hU.1
end FM
