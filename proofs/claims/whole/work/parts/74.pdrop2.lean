section DR2
variable {n L c : Nat} {fs : Nat → Int32}
theorem cpy_lo (f g : Nat → Int32) {c i : Nat} (h : i < c) : va_cpy f g 0 0 c i = f i := by
  rw [pk_cpy_in (by omega) (by omega), show 0 + (i - 0) = i by omega]
theorem cpy_hi (f g : Nat → Int32) {c i : Nat} (h : i < c) : va_cpy f g 0 100 c (100 + i) = f i := by
  rw [pk_cpy_in (by omega) (by omega), show 0 + (100 + i - 100) = i by omega]
/-- the two sides hold the same program -/
def Both (c : Nat) (kp : Nat → Nat) (fa fb fd fk ga gb gd9 gk : Nat → Int32) : Prop := ∀ i, i < c → fk i = nI (kp i) ∧ gk (100 + i) = nI (kp i) ∧ gd9 (100 + i) = fd i ∧ ga (100 + i) = fa i ∧ gb (100 + i) = fb i
/-- rows outside the present program are kept -/
def Fr (c : Nat) (f g : Nat → Int32) : Prop := ∀ x, ¬ (100 ≤ x ∧ x < 100 + c) → g x = f x
theorem Fr_rfl (f : Nat → Int32) : Fr c f f := fun _ _ => rfl
theorem Fr_cpy (f g : Nat → Int32) : Fr c g (va_cpy f g 0 100 c) := fun x hx => pk_cpy_out (by omega)
theorem Fr_tr {f g h : Nat → Int32} (h1 : Fr c f g) (h2 : Fr c g h) : Fr c f h := fun x hx => (h2 x hx).trans (h1 x hx)
theorem k0_no : wrK 0 = false ∧ raK 0 = false ∧ rbK 0 = false ∧ goK 0 = false := by decide
theorem WI_0 (c : Nat) : WI c 0 0 0 0 := ⟨by omega, (fun h => by rw [k0_no.1] at h; cases h), (fun h => by rw [k0_no.2.1] at h; cases h), (fun h => by rw [k0_no.2.2.1] at h; cases h), (fun h => by rw [k0_no.2.2.2] at h; cases h), (fun _ => rfl), (fun _ => rfl), (fun _ => rfl)⟩
theorem drop_WP {kp : Nat → Nat} {p : Nat → Nat → Bool} {fa fb fd : Nat → Int32} (w : WP c kp fd fa fb) : WP c (dK' kp fd p) (dX' kp fd p fd) (dX' kp fd p fa) (dX' kp fd p fb) := fun i hi => by
  show WI c (if dpB kp fd p i = true then 0 else kp i) (if dpB kp fd p i = true then 0 else fd i) (if dpB kp fd p i = true then 0 else fa i) (if dpB kp fd p i = true then 0 else fb i)
  by_cases z : dpB kp fd p i = true
  · rw [if_pos z, if_pos z, if_pos z, if_pos z]; exact WI_0 c
  · rw [if_neg z, if_neg z, if_neg z, if_neg z]; exact w i hi
theorem WP_cpy {kp : Nat → Nat} {D A B D0 A0 B0 : Nat → Int32} (w : WP c kp D A B) : WP c kp (va_cpy D D0 0 0 c) (va_cpy A A0 0 0 c) (va_cpy B B0 0 0 c) := fun i hi => by
  rw [cpy_lo _ _ hi, cpy_lo _ _ hi, cpy_lo _ _ hi]; exact w i hi
theorem Both_cpy {kq : Nat → Nat} {fa fb fd fk ga gb gd9 gk A B D : Nat → Int32} : Both c kq (va_cpy A fa 0 0 c) (va_cpy B fb 0 0 c) (va_cpy D fd 0 0 c) (va_cpy (fun i => nI (kq i)) fk 0 0 c) (va_cpy A ga 0 100 c) (va_cpy B gb 0 100 c) (va_cpy D gd9 0 100 c) (va_cpy (fun i => nI (kq i)) gk 0 100 c) := fun i hi => by
  rw [cpy_lo _ _ hi, cpy_lo _ _ hi, cpy_lo _ _ hi, cpy_lo _ _ hi, cpy_hi _ _ hi, cpy_hi _ _ hi, cpy_hi _ _ hi, cpy_hi _ _ hi]
  exact ⟨rfl, rfl, rfl, rfl, rfl⟩
theorem cnN_le2 {f g : Nat → Bool} : ∀ (m : Nat), (∀ i, i < m → f i = true → g i = true) → cnN f m ≤ cnN g m
  | 0, _ => Nat.le_refl _
  | m + 1, h => by
    have h1 := cnN_le2 m (fun i hi => h i (Nat.lt_succ_of_lt hi))
    show cnN f m + (if f m = true then 1 else 0) ≤ cnN g m + (if g m = true then 1 else 0)
    by_cases z : f m = true
    · rw [if_pos z, if_pos (h m (by omega) z)]; omega
    · rw [if_neg z]; omega
theorem cnN_lt2 {f g e : Nat → Bool} : ∀ (m : Nat), (∀ i, i < m → f i = true → g i = true) → (∀ i, i < m → e i = true → g i = true ∧ f i = false) → 0 < cnN e m → cnN f m < cnN g m
  | 0, _, _, h => absurd h (Nat.lt_irrefl 0)
  | m + 1, h1, h2, h3 => by
    have a1 := fun i hi => h1 i (Nat.lt_succ_of_lt hi)
    have a2 := fun i hi => h2 i (Nat.lt_succ_of_lt hi)
    have h3 : 0 < cnN e m + (if e m = true then 1 else 0) := h3
    show cnN f m + (if f m = true then 1 else 0) < cnN g m + (if g m = true then 1 else 0)
    by_cases z : e m = true
    · have := h2 m (by omega) z
      have le := cnN_le2 m a1
      rw [if_pos this.1, this.2, if_neg (by decide)]
      omega
    · rw [if_neg z] at h3
      have := cnN_lt2 m a1 a2 (by omega)
      by_cases y : f m = true
      · rw [if_pos y, if_pos (h1 m (by omega) y)]; omega
      · rw [if_neg y]; omega
theorem drop_loop (hn : 300 < n) (hc : c ≤ 24) (hL : c ≤ L) (hLL : L < 2 ^ 31) (hs : fs 1 = nI c) (Q : (Nat → Nat) → (Nat → Int32) → (Nat → Int32) → (Nat → Int32) → Prop)
    (hQ : ∀ kp fd fa fb p (D0 A0 B0 : Nat → Int32), WP c kp fd fa fb → LvS kp fd fa fb c p → Q kp fd fa fb → Q (dK' kp fd p) (va_cpy (dX' kp fd p fd) D0 0 0 c) (va_cpy (dX' kp fd p fa) A0 0 0 c) (va_cpy (dX' kp fd p fb) B0 0 0 c)) :
    ∀ (M : Nat) {kp : Nat → Nat} {fa fb fd fk ga gb gd9 gk bf dn mk se : Nat → Int32} {x2 y2 : Int32} (cnt rr k k2 : Nat), cnN (fun i => onK (kp i)) c = M → WP c kp fd fa fb → Q kp fd fa fb → Both c kp fa fb fd fk ga gb gd9 gk →
      cnt + M ≤ 1000 → rr + M ≤ 24 → M + 2 < k → M + 2 < k2 → ¬ nI cnt = x2 → ¬ nI cnt ≤ y2 →
    ∃ m kq fa' fb' fd' fk' ga' gb' gd' gk' bf' dn' mk' se',
      f_X8_dropAll_6 n k L bf fa fb fd fk (nI c) (nI cnt) x2 (nI rr) = some (nI m, bf', fa', fb', fd', fk') ∧
      f_X9_drop_4 n k2 ga gb gd9 dn gk mk se fs (nI cnt) y2 = some (nI m, ga', gb', gd', dn', gk', mk', se') ∧
      WP c kq fd' fa' fb' ∧ Q kq fd' fa' fb' ∧ Both c kq fa' fb' fd' fk' ga' gb' gd' gk' ∧ Fr c ga ga' ∧ Fr c gb gb' ∧ Fr c gd9 gd' ∧ Fr c gk gk' := by
  intro M
  induction M using Nat.strongRecOn with
  | _ M ih =>
    intro kp fa fb fd fk ga gb gd9 gk bf dn mk se x2 y2 cnt rr k k2 hM w q hB hcnt hrr hk hk2 hx hy
    have hf := fun i hi => (hB i hi).1
    have hk0 := fun i hi => (hB i hi).2.1
    have hd0 := fun i hi => (hB i hi).2.2.1
    have ha0 := fun i hi => (hB i hi).2.2.2.1
    have hb0 := fun i hi => (hB i hi).2.2.2.2
    obtain ⟨k, rfl⟩ : ∃ k', k = k' + 1 := ⟨k - 1, by omega⟩
    obtain ⟨k2, rfl⟩ : ∃ k', k2 = k' + 1 := ⟨k2 - 1, by omega⟩
    have l24 : ∀ x, x < 1000 → (((24 : Int32) < nI x) ↔ 24 < x) := fun x hx => nI_ltI (a := 24) (by decide) (by omega)
    rw [f_X8_dropAll_6, if_neg (fun z => by have := (l24 rr (by omega)).mp z; omega), if_neg hx]
    obtain ⟨bf1, p, h1, h2, h3⟩ := s_find (n := n) (by omega) hc hL hLL hf w bf
    rw [h1]
    simp only [Option.bind_some]
    rw [s_dropUnused (by omega) hc hL hLL hf w h2]
    simp only [Option.bind_some]
    rw [nI_add, pn_s]
    rw [f_X9_drop_4, if_neg hy]
    obtain ⟨dn1, se1, mk1, j1, j2⟩ := m_drop13 (n := n) (by omega) hc hs w hk0 hd0 ha0 hb0 h3 (fun f0_a' f0_b' f0_d' f0_done' f0_kind' f0_mark' f0_seen' x1' x2' => f_X9_drop_4 n k2 f0_a' f0_b' f0_d' f0_done' f0_kind' f0_mark' f0_seen' fs x1' x2') (nI cnt) (nI cnt) n 0 (dn := dn) (se := se) (mk := mk) (by omega) (by omega) (fun i hi => by omega)
    rw [← pn_0] at j1
    rw [j1]
    have j3 := m_drop82 (n := n) hc hs hk0 j2 hd0 ha0 hb0 (fun f0_a' f0_b' f0_d' f0_done' f0_kind' f0_mark' f0_seen' x1' x2' => f_X9_drop_4 n k2 f0_a' f0_b' f0_d' f0_done' f0_kind' f0_mark' f0_seen' fs x1' x2') cnt (nI cnt) dn1 se1 n 0 (by omega) (by omega)
    rw [cpy_0, cpy_0, cpy_0, cpy_0, ← pn_0] at j3
    have j3 : f_X9_drop_82 n (fun f0_a' f0_b' f0_d' f0_done' f0_kind' f0_mark' f0_seen' x1' x2' => f_X9_drop_4 n k2 f0_a' f0_b' f0_d' f0_done' f0_kind' f0_mark' f0_seen' fs x1' x2') n ga gb gd9 dn1 gk mk1 se1 fs (nI cnt) (nI cnt) 0 = _ := j3
    rw [j3]
    have hle : cnN (dpB kp fd p) c ≤ M := by
      rw [← hM]
      refine cnN_le2 c (fun i hi h => ?_)
      unfold dpB at h
      rw [Bool.and_eq_true] at h
      exact h.1
    have wn := WP_cpy (D0 := fd) (A0 := fa) (B0 := fb) (drop_WP (p := p) w)
    have qn := hQ kp fd fa fb p fd fa fb w h3 q
    by_cases z : cnN (dpB kp fd p) c = 0
    · obtain ⟨k, rfl⟩ : ∃ k', k = k' + 1 := ⟨k - 1, by omega⟩
      obtain ⟨k2, rfl⟩ : ∃ k', k2 = k' + 1 := ⟨k2 - 1, by omega⟩
      refine ⟨cnt, dK' kp fd p, va_cpy (dX' kp fd p fa) fa 0 0 c, va_cpy (dX' kp fd p fb) fb 0 0 c, va_cpy (dX' kp fd p fd) fd 0 0 c, va_cpy (fun i => nI (dK' kp fd p i)) fk 0 0 c, va_cpy (dX' kp fd p fa) ga 0 100 c, va_cpy (dX' kp fd p fb) gb 0 100 c, va_cpy (dX' kp fd p fd) gd9 0 100 c, va_cpy (fun i => nI (dK' kp fd p i)) gk 0 100 c, bf1, dn1, mk1, se1, ?_, ?_, wn, qn, Both_cpy, Fr_cpy _ _, Fr_cpy _ _, Fr_cpy _ _, Fr_cpy _ _⟩
      · rw [z, Nat.add_zero, f_X8_dropAll_6]
        split
        · rfl
        · rw [if_pos (show nI (cnt + 0) = nI cnt from rfl)]; rfl
      · show f_X9_drop_4 n (k2 + 1) _ _ _ _ _ _ _ fs (nI (cnt + cnN (dpB kp fd p) c)) (nI cnt) = _
        rw [z, f_X9_drop_4, if_pos (show nI (cnt + 0) ≤ nI cnt from nI_le (Nat.le_refl _) (by omega))]
        rfl
    · have hlt : cnN (fun i => onK (dK' kp fd p i)) c < M := by
        rw [← hM]
        refine cnN_lt2 (e := dpB kp fd p) c (fun i hi h => ?_) (fun i hi h => ?_) (by omega)
        · have h : onK (if dpB kp fd p i = true then 0 else kp i) = true := h
          by_cases y : dpB kp fd p i = true
          · rw [if_pos y] at h; exact absurd h (by decide)
          · rw [if_neg y] at h; exact h
        · refine ⟨?_, ?_⟩
          · have h' := h
            unfold dpB at h'
            rw [Bool.and_eq_true] at h'
            exact h'.1
          · show onK (if dpB kp fd p i = true then 0 else kp i) = false
            rw [if_pos h]; decide
      have hsum : cnN (dpB kp fd p) c + cnN (fun i => onK (dK' kp fd p i)) c ≤ M := by
        rw [← hM]
        have : ∀ m, cnN (dpB kp fd p) m + cnN (fun i => onK (dK' kp fd p i)) m ≤ cnN (fun i => onK (kp i)) m := fun m => by
          induction m with
          | zero => exact Nat.le_refl _
          | succ m ihm =>
            show (cnN (dpB kp fd p) m + (if dpB kp fd p m = true then 1 else 0)) + (cnN (fun i => onK (dK' kp fd p i)) m + (if onK (if dpB kp fd p m = true then 0 else kp m) = true then 1 else 0)) ≤ cnN (fun i => onK (kp i)) m + (if onK (kp m) = true then 1 else 0)
            by_cases y : dpB kp fd p m = true
            · have h' := y
              unfold dpB at h'
              rw [Bool.and_eq_true] at h'
              rw [if_pos y, if_pos y, if_neg (by decide), if_pos h'.1]
              omega
            · rw [if_neg y, if_neg y]
              omega
        exact this c
      obtain ⟨m, kq, fa', fb', fd', fk', ga', gb', gd', gk', bf', dn', mk', se', i1, i2, i3, i4, i5, i6, i7, i8, i9⟩ := ih _ hlt (bf := bf1) (dn := dn1) (mk := mk1) (se := se1) (x2 := nI cnt) (y2 := nI cnt) (cnt + cnN (dpB kp fd p) c) (rr + 1) k k2 rfl wn qn (Both_cpy (fk := fk) (ga := ga) (gb := gb) (gd9 := gd9) (gk := gk)) (by omega) (by omega) (by omega) (by omega) (fun t => by have := nIj t (by omega) (by omega); omega) (nI_ge (by omega) (by omega))
      exact ⟨m, kq, fa', fb', fd', fk', ga', gb', gd', gk', bf', dn', mk', se', i1, i2, i3, i4, i5, Fr_tr (Fr_cpy _ _) i6, Fr_tr (Fr_cpy _ _) i7, Fr_tr (Fr_cpy _ _) i8, Fr_tr (Fr_cpy _ _) i9⟩
theorem drop_both (hn : 300 < n) (hc : c ≤ 24) (hL : c ≤ L) (hLL : L < 2 ^ 31) (hs : fs 1 = nI c) (Q : (Nat → Nat) → (Nat → Int32) → (Nat → Int32) → (Nat → Int32) → Prop)
    (hQ : ∀ kp fd fa fb p (D0 A0 B0 : Nat → Int32), WP c kp fd fa fb → LvS kp fd fa fb c p → Q kp fd fa fb → Q (dK' kp fd p) (va_cpy (dX' kp fd p fd) D0 0 0 c) (va_cpy (dX' kp fd p fa) A0 0 0 c) (va_cpy (dX' kp fd p fb) B0 0 0 c))
    {kp : Nat → Nat} {fa fb fd fk ga gb gd9 gk bf dn mk se : Nat → Int32} (w : WP c kp fd fa fb) (q : Q kp fd fa fb) (hB : Both c kp fa fb fd fk ga gb gd9 gk) :
    ∃ m kq fa' fb' fd' fk' ga' gb' gd' gk' bf' dn' mk' se',
      f_X8_dropAll n L bf fa fb fd fk (nI c) = some (nI m, bf', fa', fb', fd', fk') ∧
      f_X9_drop n ga gb gd9 dn gk mk se fs = some (nI m, ga', gb', gd', dn', gk', mk', se') ∧
      WP c kq fd' fa' fb' ∧ Q kq fd' fa' fb' ∧ Both c kq fa' fb' fd' fk' ga' gb' gd' gk' ∧ Fr c ga ga' ∧ Fr c gb gb' ∧ Fr c gd9 gd' ∧ Fr c gk gk' := by
  have hle := cnN_le (fun i => onK (kp i)) c
  exact drop_loop hn hc hL hLL hs Q hQ _ (x2 := -1) (y2 := -1) 0 0 n n rfl w q hB (by omega) (by omega) (by omega) (by omega) (by decide) (by decide)
end DR2
