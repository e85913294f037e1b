section SHR
variable {n c : Nat} {kp : Nat → Nat} {fa fb fd fk fs ga gb gd9 gk : Nat → Int32}
theorem m_share37 (K : (Nat → Int32) → (Nat → Int32) → (Nat → Int32) → (Nat → Int32) → (Nat → Int32) → (Nat → Int32) → (Nat → Int32) → (Nat → Int32) → Int32 → Int32 → Int32 → Int32 → Option (Int32 × (Nat → Int32) × (Nat → Int32) × (Nat → Int32) × (Nat → Int32) × (Nat → Int32) × (Nat → Int32) × (Nat → Int32) × (Nat → Int32) × Int32 × Int32)) {vs : Nat} (hvs : vs + 8 ≤ 256) (x1 x2 w : Int32) : ∀ (k j : Nat) {held vK vO vW : Nat → Int32}, j ≤ 8 → 8 - j < k → (∀ r, r < j → held r = nI (vs + r) ∧ vK (vs + r) = 0) →
    ∃ held' vK' vO' vW', f_X9_share_37 n K k fa fb fd held fk fs vK vO vW (nI (vs + j)) w x1 x2 (nI j) = f_X9_share_62 n K fa fb fd held' fk fs vK' vO' vW' (nI (vs + 8)) w x1 x2 ∧ ∀ r, r < 8 → held' r = nI (vs + r) ∧ vK' (vs + r) = 0 := by
  intro k
  induction k with
  | zero => intro j held vK vO vW h1 h2; omega
  | succ k ih =>
    intro j held vK vO vW hj hk h
    rw [f_X9_share_37]
    by_cases e : j = 8
    · rw [if_pos ((le8 (by omega)).mpr (by omega)), e]
      exact ⟨_, _, _, _, rfl, fun r hr => h r (by omega)⟩
    · have hlt : j < 8 := by omega
      rw [if_neg (fun z => e (by have := (le8 (by omega)).mp z; omega)), m_newValue (by omega)]
      simp only [Option.bind_some]
      rw [pn_gd hlt (by omega), nI_clamp (by omega), pn_s]
      refine ih (j + 1) (by omega) (by omega) (fun r hr => ?_)
      by_cases z : r = j
      · rw [z, upd_s, upd_s]; exact ⟨rfl, rfl⟩
      · rw [upd_n _ z, upd_n _ (by omega)]; exact h r (by omega)
theorem m_share9 (hn : 256 < n) (hc : c ≤ 24) (hs : fs 1 = nI c) (w : WP c kp fd fa fb) (hk0 : ∀ i, i < c → gk (100 + i) = nI (kp i)) (hd0 : ∀ i, i < c → gd9 (100 + i) = fd i) (ha0 : ∀ i, i < c → ga (100 + i) = fa i) (hb0 : ∀ i, i < c → gb (100 + i) = fb i) : ∀ (k i : Nat) {held vK vO vW : Nat → Int32} {v u : Int32}, i ≤ c → c - i < k →
    (∃ vs, vs ≤ 9 * i ∧ v = nI vs ∧ (i = 0 ∨ ∃ bb, vs = bb + (shS kp fd fa fb c i).2.1 ∧ u = nI bb ∧ SM (shS kp fd fa fb c i) bb held vK vO vW)) →
    ∃ held' vK' vO' vW' v' u', f_X9_share_9 n k (va_cpy (sA' kp fd fa fb c) ga 0 100 i) (va_cpy (sB' kp fd fa fb c) gb 0 100 i) (va_cpy (sD' kp fd fa fb c) gd9 0 100 i) held (va_cpy (fun x => nI (sK' kp fd fa fb c x)) gk 0 100 i) fs vK vO vW v u (nI (cnN (sC' kp fd fa fb c) i)) (nI i)
      = some (nI (cnN (sC' kp fd fa fb c) c), va_cpy (sA' kp fd fa fb c) ga 0 100 c, va_cpy (sB' kp fd fa fb c) gb 0 100 c, va_cpy (sD' kp fd fa fb c) gd9 0 100 c, held', va_cpy (fun x => nI (sK' kp fd fa fb c x)) gk 0 100 c, vK', vO', vW', v', u') := by
  intro k
  induction k with
  | zero => intro i held vK vO vW v u h1 h2; omega
  | succ k ih =>
    intro i held vK vO vW v u hi hk hst
    rw [f_X9_share_9, show (1 : Int32) = nI 1 from pn_1, pn_gd (by omega) (by omega), nI_clamp (show 1 < 2 ^ 31 by omega), hs]
    by_cases e : i = c
    · subst e
      rw [if_pos (nI_le (Nat.le_refl _) (by omega))]
      exact ⟨_, _, _, _, _, _, rfl⟩
    · have hlt : i < c := by omega
      have hbg : f_X9_isBegin n (va_cpy (sD' kp fd fa fb c) gd9 0 100 i) (va_cpy (fun x => nI (sK' kp fd fa fb c x)) gk 0 100 i) fs (nI i) = some (b2i (bgF kp fd c i)) := by
        rw [m_isBegin (kp := fun j => if j < i then sK' kp fd fa fb c j else kp j) (D := fun j => if j < i then sD' kp fd fa fb c j else fd j) (by omega) hc hlt hs (fun j hj => ⟨mut_k1 _ _ kp hk0 j hj, ?_⟩) (fun j hj => mut_d1 _ _ fd hd0 j hj), bg_mut w hlt]
        have hkj : kp j < 15 := by have := (w j hj).1; omega
        show (if j < i then sK' kp fd fa fb c j else kp j) < 15
        split
        · exact shK_lt hkj
        · exact hkj
      rw [if_neg (nI_ge hlt (by omega)), hbg]
      simp only [Option.bind_some]
      have one : ∀ {held vK vO vW : Nat → Int32} {bb : Nat}, bb + (shI kp fd fa fb c i).2.1 ≤ 9 * i + 8 → SM (shI kp fd fa fb c i) bb held vK vO vW →
          ∃ held' vK' vO' vW' v' u', f_X9_share_62 n (fun f0_a' f0_b' f0_d' f0_held' f0_kind' f0_valueKind' f0_valueOne' f0_valueTwo' v0_values' v0_blockBegan' x1' x2' => f_X9_share_9 n k f0_a' f0_b' f0_d' f0_held' f0_kind' fs f0_valueKind' f0_valueOne' f0_valueTwo' v0_values' v0_blockBegan' x1' x2') (va_cpy (sA' kp fd fa fb c) ga 0 100 i) (va_cpy (sB' kp fd fa fb c) gb 0 100 i) (va_cpy (sD' kp fd fa fb c) gd9 0 100 i) held (va_cpy (fun x => nI (sK' kp fd fa fb c x)) gk 0 100 i) fs vK vO vW (nI (bb + (shI kp fd fa fb c i).2.1)) (nI bb) (nI (cnN (sC' kp fd fa fb c) i)) (nI i)
            = some (nI (cnN (sC' kp fd fa fb c) c), va_cpy (sA' kp fd fa fb c) ga 0 100 c, va_cpy (sB' kp fd fa fb c) gb 0 100 c, va_cpy (sD' kp fd fa fb c) gd9 0 100 c, held', va_cpy (fun x => nI (sK' kp fd fa fb c x)) gk 0 100 c, vK', vO', vW', v', u') := by
        intro held vK vO vW bb hb hSM
        obtain ⟨held', vK', vO', vW', h1, h2⟩ := m_shared (n := n) (s := shI kp fd fa fb c i) (bb := bb) (c := c) (fa := va_cpy (sA' kp fd fa fb c) ga 0 100 i) (fb := va_cpy (sB' kp fd fa fb c) gb 0 100 i) (fd := va_cpy (sD' kp fd fa fb c) gd9 0 100 i) (fk := va_cpy (fun x => nI (sK' kp fd fa fb c x)) gk 0 100 i) (k := kp i) (i := i) hn (by omega) (by rw [cpy_at1]; exact hk0 i hlt) (by rw [cpy_at1, cpy_at1, cpy_at1, ha0 i hlt, hb0 i hlt, hd0 i hlt]; exact w i hlt) hSM (by omega)
        rw [cpy_at1, cpy_at1, cpy_at1, ha0 i hlt, hb0 i hlt, hd0 i hlt] at h1 h2
        have ea := cpy_n1 (sA' kp fd fa fb c) ga i
        have eb := cpy_n1 (sB' kp fd fa fb c) gb i
        have ed := cpy_n1 (sD' kp fd fa fb c) gd9 i
        have ek := cpy_n1 (fun x => nI (sK' kp fd fa fb c x)) gk i
        have hok := (shN_ok (s := shI kp fd fa fb c i) (w i hlt) hSM.1).2
        have h1' : f_X9_shared n (va_cpy (sA' kp fd fa fb c) ga 0 100 i) (va_cpy (sB' kp fd fa fb c) gb 0 100 i) (va_cpy (sD' kp fd fa fb c) gd9 0 100 i) held (va_cpy (fun x => nI (sK' kp fd fa fb c x)) gk 0 100 i) vK vO vW (nI (bb + (shI kp fd fa fb c i).2.1)) (nI bb) (nI i) = some (b2i (sC' kp fd fa fb c i), va_cpy (sA' kp fd fa fb c) ga 0 100 (i + 1), va_cpy (sB' kp fd fa fb c) gb 0 100 (i + 1), va_cpy (sD' kp fd fa fb c) gd9 0 100 (i + 1), held', va_cpy (fun x => nI (sK' kp fd fa fb c x)) gk 0 100 (i + 1), vK', vO', vW', nI (bb + (shS kp fd fa fb c (i + 1)).2.1)) := by
          rw [← ea, ← eb, ← ed, ← ek]
          exact h1
        unfold f_X9_share_62
        rw [h1']
        simp only [Option.bind_some, pn_s]
        have hih := ih (i + 1) (held := held') (vK := vK') (vO := vO') (vW := vW') (v := nI (bb + (shS kp fd fa fb c (i + 1)).2.1)) (u := nI bb) (by omega) (by omega) ⟨bb + (shS kp fd fa fb c (i + 1)).2.1, by have : (shS kp fd fa fb c (i + 1)).2.1 ≤ (shI kp fd fa fb c i).2.1 + 1 := hok; omega, rfl, Or.inr ⟨bb, rfl, rfl, h2⟩⟩
        cases e2 : sC' kp fd fa fb c i with
        | false =>
          rw [if_pos (show b2i false = 0 by decide)]
          have : cnN (sC' kp fd fa fb c) (i + 1) = cnN (sC' kp fd fa fb c) i := by show cnN _ i + (if sC' kp fd fa fb c i = true then 1 else 0) = _; rw [e2]; rfl
          rw [this] at hih
          exact hih
        | true =>
          rw [if_neg (show ¬ b2i true = 0 by decide)]
          have : cnN (sC' kp fd fa fb c) (i + 1) = cnN (sC' kp fd fa fb c) i + 1 := by show cnN _ i + (if sC' kp fd fa fb c i = true then 1 else 0) = _; rw [e2]; rfl
          rw [this] at hih
          exact hih
      obtain ⟨vs, hv1, hv2, hv3⟩ := hst
      cases eb : bgF kp fd c i with
      | true =>
        rw [if_neg (show ¬ b2i true = 0 by decide), hv2]
        have eI : shI kp fd fa fb c i = s00 := by rw [shI, if_pos eb]
        obtain ⟨held', vK', vO', vW', g1, g2⟩ := m_share37 (n := n) (fa := va_cpy (sA' kp fd fa fb c) ga 0 100 i) (fb := va_cpy (sB' kp fd fa fb c) gb 0 100 i) (fd := va_cpy (sD' kp fd fa fb c) gd9 0 100 i) (fk := va_cpy (fun x => nI (sK' kp fd fa fb c x)) gk 0 100 i) (fs := fs) (fun f0_a' f0_b' f0_d' f0_held' f0_kind' f0_valueKind' f0_valueOne' f0_valueTwo' v0_values' v0_blockBegan' x1' x2' => f_X9_share_9 n k f0_a' f0_b' f0_d' f0_held' f0_kind' fs f0_valueKind' f0_valueOne' f0_valueTwo' v0_values' v0_blockBegan' x1' x2') (vs := vs) (by omega) (nI (cnN (sC' kp fd fa fb c) i)) (nI i) (nI vs) n 0 (held := held) (vK := vK) (vO := vO) (vW := vW) (by omega) (by omega) (fun r hr => by omega)
        rw [Nat.add_zero, ← pn_0] at g1
        rw [g1]
        have := one (held := held') (vK := vK') (vO := vO') (vW := vW') (bb := vs) (by rw [eI]; show vs + 8 ≤ _; omega) (by rw [eI]; exact ⟨s00_ok, (fun r hr => (g2 r hr).1), (fun k x y v h => by cases h), (fun v hv => Or.inl (g2 v hv).2)⟩)
        rw [eI] at this
        exact this
      | false =>
        rw [if_pos (show b2i false = 0 by decide)]
        rcases hv3 with h0 | ⟨bb, h1, h2, h3⟩
        · rw [h0] at eb
          cases eb
        · have eI : shI kp fd fa fb c i = shS kp fd fa fb c i := by rw [shI, if_neg (by rw [eb]; decide)]
          rw [hv2, h1, h2, ← eI]
          exact one (by rw [eI]; omega) (by rw [eI]; exact h3)
theorem m_share (hn : 256 < n) (hc : c ≤ 24) (hs : fs 1 = nI c) (w : WP c kp fd fa fb) (hk0 : ∀ i, i < c → gk (100 + i) = nI (kp i)) (hd0 : ∀ i, i < c → gd9 (100 + i) = fd i) (ha0 : ∀ i, i < c → ga (100 + i) = fa i) (hb0 : ∀ i, i < c → gb (100 + i) = fb i) {held vK vO vW : Nat → Int32} {v u : Int32} :
    ∃ held' vK' vO' vW' v' u', f_X9_share n ga gb gd9 held gk fs vK vO vW v u = some (nI (cnN (sC' kp fd fa fb c) c), va_cpy (sA' kp fd fa fb c) ga 0 100 c, va_cpy (sB' kp fd fa fb c) gb 0 100 c, va_cpy (sD' kp fd fa fb c) gd9 0 100 c, held', va_cpy (fun x => nI (sK' kp fd fa fb c x)) gk 0 100 c, vK', vO', vW', v', u') := by
  have := m_share9 hn hc hs w hk0 hd0 ha0 hb0 n 0 (held := held) (vK := vK) (vO := vO) (vW := vW) (v := 0) (u := u) (by omega) (by omega) ⟨0, by omega, pn_0, Or.inl rfl⟩
  rw [cpy_0, cpy_0, cpy_0, cpy_0] at this
  exact this
end SHR
