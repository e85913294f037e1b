section PK3
variable {n L c : Nat} {kp : Nat → Nat} {fa fb fk ga gb gk fs : Nat → Int32}
/-- rows of the original and of the draft are kept -/
def FrP (f g : Nat → Int32) : Prop := ∀ x, (x < 100 ∨ (200 ≤ x ∧ x < 300)) → g x = f x
theorem FrP_rfl (f : Nat → Int32) : FrP f f := fun _ _ => rfl
theorem FrP_of {f g : Nat → Int32} (hc : c ≤ 100) (h : Fr c f g) : FrP f g := fun x hx => h x (by omega)
theorem FrP_tr {f g h : Nat → Int32} (h1 : FrP f g) (h2 : FrP g h) : FrP f h := fun x hx => (h2 x hx).trans (h1 x hx)
theorem s_pack2 (hn : 24 < n) (hc : c ≤ 24) (hL : c ≤ L) (hLL : L < 2 ^ 31) (hf : ∀ i, i < c → fk i = nI (kp i) ∧ kp i < 15) (lv pl : Nat → Int32) : ∀ (k i : Nat) {D : Nat → Int32}, i ≤ c → c - i < k → DOK kp c D →
    f_X5_pack_2 n k L lv pl fa fb D fk (nI c) (nI i) = ((f_X5_choose n L lv pl (pkL kp c (c - i) i D) fk (nI c)).bind (fun u2 => (f_X5_takeOut n L u2.1 u2.2 fa fb (pkL kp c (c - i) i D) fk (nI c)).bind (fun u4 => some (u4.1, u2.1, u2.2, u4.2.1, u4.2.2.1, u4.2.2.2.1, u4.2.2.2.2.1, u4.2.2.2.2.2)))) := by
  intro k
  induction k with
  | zero => intro i D h1 h2; omega
  | succ k ih =>
    intro i D hi hk hD
    rw [f_X5_pack_2]
    by_cases e : i = c
    · subst e
      rw [if_pos (nI_le (Nat.le_refl _) (by omega)), Nat.sub_self]
      rfl
    · have hlt : i < c := by omega
      have hsub : c - i = (c - (i + 1)) + 1 := by omega
      rw [if_neg (nI_ge hlt (by omega)), pn_gd (by omega) hLL, nI_clamp (by omega), (hf i hlt).1, s_goesToD _ (hf i hlt).2, hsub]
      simp only [Option.bind_some, pn_s]
      have hp : pkL kp c ((c - (i + 1)) + 1) i D = pkL kp c (c - (i + 1)) (i + 1) (if goK (kp i) = true then gfN kp c i 24 D else D) := rfl
      rw [hp]
      cases eg : goK (kp i) with
      | false =>
        rw [if_pos (show b2i false = 0 by decide)]
        exact ih (i + 1) (by omega) (by omega) hD
      | true =>
        have hg : f_X5_goFurther n L D fk (nI c) (nI i) = some (gfN kp c i 24 D) := s_gf2 hn hc hL hLL hf hlt eg n 0 (by omega) (by omega) hD
        rw [if_neg (show ¬ b2i true = 0 by decide), hg]
        simp only [Option.bind_some]
        exact ih (i + 1) (by omega) (by omega) (gfN_ok hc eg 24 hD)
theorem m_pack9 (hn : 24 < n) (hc : c ≤ 24) (hs : fs 1 = nI c) (hf : ∀ i, i < c → gk (100 + i) = nI (kp i) ∧ kp i < 15) (mk pl g0 : Nat → Int32) : ∀ (k i : Nat) {D gd9 : Nat → Int32}, i ≤ c → c - i < k → DOK kp c D → Row c D gd9 g0 →
    ∃ gd', f_X9_pack_9 n k ga gb gd9 gk mk pl fs (nI c) (nI i) = f_X9_pack_108 n n ga gb gd' gk mk pl fs (nI c) 0 0 ∧ Row c (pkL kp c (c - i) i D) gd' g0 := by
  intro k
  induction k with
  | zero => intro i D gd9 h1 h2; omega
  | succ k ih =>
    intro i D gd9 hi hk hD hR
    rw [f_X9_pack_9]
    by_cases e : i = c
    · subst e
      rw [if_pos (nI_le (Nat.le_refl _) (by omega)), Nat.sub_self]
      exact ⟨_, rfl, hR⟩
    · have hlt : i < c := by omega
      have hsub : c - i = (c - (i + 1)) + 1 := by omega
      rw [if_neg (nI_ge hlt (by omega)), hsub]
      have hp : pkL kp c ((c - (i + 1)) + 1) i D = pkL kp c (c - (i + 1)) (i + 1) (if goK (kp i) = true then gfN kp c i 24 D else D) := rfl
      rw [hp]
      cases eg : goK (kp i) with
      | false =>
        obtain ⟨n', rfl⟩ : ∃ n', n = n' + 1 := ⟨n - 1, by omega⟩
        rw [f_X9_pack_16, if_neg (by decide), pn_h, pn_gd (by omega) (by omega), nI_clamp (by omega), (hf i hlt).1, m_goes _ (hf i hlt).2, eg]
        simp only [Option.bind_some]
        rw [if_pos (show b2i false = 0 by decide), pn_s]
        exact ih (i + 1) (by omega) (by omega) hD hR
      | true =>
        obtain ⟨gd1, h1, h2⟩ := m_pack16 (ga := ga) (gb := gb) (mk := mk) (pl := pl) hn hc hs hf hlt eg g0 (fun f0_a' f0_b' f0_d' f0_kind' f0_mark' f0_place' f0_size' x1' x2' => f_X9_pack_9 n k f0_a' f0_b' f0_d' f0_kind' f0_mark' f0_place' f0_size' x1' x2') n 0 (by omega) (by omega) hD hR
        rw [← pn_0] at h1
        rw [h1]
        exact ih (i + 1) (by omega) (by omega) (gfN_ok hc eg 24 hD) h2
theorem pack_both {fd gd9 : Nat → Int32} (hn : 100 < n) (hc : c ≤ 24) (hL : c ≤ L) (hLL : L < 2 ^ 31) (hs : fs 1 = nI c) (w : WP c kp fd fa fb) (hB : Both c kp fa fb fd fk ga gb gd9 gk) (lv pl mk pm : Nat → Int32) :
    ∃ D cq lv' pl' fa' fb' fd' fk' ga' gb' gd' gk' mk' pm' fs', D = pkL kp c c 0 fd ∧ cq = plN kp c D c ∧
      f_X5_pack n L lv pl fa fb fd fk (nI c) = some (nI (c - cq), lv', pl', fa', fb', fd', fk', nI cq) ∧
      f_X9_pack n ga gb gd9 gk mk pm fs = some (nI (c - cq), ga', gb', gd', gk', mk', pm', fs') ∧ fs' 1 = nI cq ∧ (∀ x, x ≠ 1 → x ≠ 3 → fs' x = fs x) ∧
      (∀ i, i < c → lvs kp c D i = false → nN (fk' (plN kp c D i)) = kp i ∧ fa' (plN kp c D i) = fa i ∧ fb' (plN kp c D i) = fb i ∧ fd' (plN kp c D i) = pkD kp c D i) ∧
      Both cq (fun q => nN (fk' q)) fa' fb' fd' fk' ga' gb' gd' gk' ∧ WP cq (fun q => nN (fk' q)) fd' fa' fb' ∧ FrP ga ga' ∧ FrP gb gb' ∧ FrP gd9 gd' ∧ FrP gk gk' := by
  have hkk : ∀ i, i < c → kp i < 15 := fun i hi => by have := (w i hi).1; omega
  have hf := fun i hi => And.intro (hB i hi).1 (hkk i hi)
  have hg := fun i hi => And.intro (hB i hi).2.1 (hkk i hi)
  have hD0 : DOK kp c fd := fun i hi hgo => (w i hi).2.2.2.2.1 hgo
  have hD := pkL_ok (kp := kp) hc c 0 hD0
  generalize hDe : pkL kp c c 0 fd = D at hD
  have h1 := s_pack2 (n := n) (L := L) (fa := fa) (fb := fb) (by omega) hc hL hLL hf lv pl n 0 (by omega) (by omega) hD0
  rw [Nat.sub_zero, hDe, ← pn_0] at h1
  obtain ⟨lv', pl', c1, c2, c3⟩ := s_choose4 (n := n) (L := L) (by omega) hc hL hLL hf hD n 0 (lv := lv) (pl := pl) (by omega) (by omega) (fun i hi => by omega)
  have c1 : f_X5_choose n L lv pl D fk (nI c) = some (lv', pl') := c1
  rw [c1] at h1
  obtain ⟨fa', fb', fd', fk', t1, t2⟩ := s_takeOut11 (n := n) (L := L) (fa := fa) (fb := fb) hc hL hLL hf hD c2 c3 n 0 (ha := fa) (hb := fb) (hd := D) (hk := fk) (by omega) (by omega) (fun x _ => ⟨rfl, rfl, rfl, rfl⟩) (fun i hi => by omega)
  have t1 : f_X5_takeOut n L lv' pl' fa fb D fk (nI c) = _ := t1
  simp only [Option.bind_some] at h1
  rw [t1] at h1
  obtain ⟨gd1, m1, m2⟩ := m_pack9 (n := n) (ga := ga) (gb := gb) (by omega) hc hs hg mk pm gd9 n 0 (by omega) (by omega) hD0 ⟨fun i hi => (hB i hi).2.2.1, Fr_rfl _⟩
  rw [Nat.sub_zero, hDe] at m2
  rw [← pn_0] at m1
  obtain ⟨mk', pm', d1, d2, d3⟩ := m_pack108 (n := n) (ga := ga) (gb := gb) (by omega) hc hs hg hD m2.1 n 0 (mk := mk) (pl := pm) (by omega) (by omega) (fun i hi => by omega)
  have d1 : f_X9_pack_108 n n ga gb gd1 gk mk pm fs (nI c) 0 0 = _ := d1
  obtain ⟨ha', hb', hd', hk', hs', e1, e2, e3, e4⟩ := m_pack220 (n := n) (ga := ga) (gb := gb) (gd9 := gd1) (gk := gk) hn hc hg hD m2.1 d2 d3 n 0 (ha := ga) (hb := gb) (hd := gd1) (hk := gk) (hs := upd fs 3 0) (by omega) (by omega) (by rw [upd_s]; rfl) (fun x _ => ⟨rfl, rfl, rfl, rfl⟩) (fun i hi => by omega)
  have e1 : f_X9_pack_220 n n ga gb gd1 gk mk' pm' (upd fs 3 0) (nI c) (nI (plN kp c D c)) 100 = _ := e1
  have hcq : plN kp c D c ≤ c := cnN_le _ _
  have hnk : ∀ i, i < c → lvs kp c D i = false → nN (fk' (plN kp c D i)) = kp i := fun i hi hl => by
    rw [(t2 i hi hl).2.2.2]; exact nI_clamp (by have := hkk i hi; omega)
  have honto : ∀ q, q < plN kp c D c → ∃ i, i < c ∧ lvs kp c D i = false ∧ plN kp c D i = q := fun q hq => by
    obtain ⟨i, a1, a2, a3⟩ := cn_onto c q hq
    refine ⟨i, a1, ?_, a3⟩
    have a2 : (!lvs kp c D i) = true := a2
    cases e : lvs kp c D i with
    | false => rfl
    | true => rw [e] at a2; cases a2
  refine ⟨D, plN kp c D c, lv', pl', fa', fb', fd', fk', va_cpy ha' ha' 300 100 (plN kp c D c), va_cpy hb' hb' 300 100 (plN kp c D c), va_cpy hd' hd' 300 100 (plN kp c D c), va_cpy hk' hk' 300 100 (plN kp c D c), mk', pm', upd hs' 1 (nI (plN kp c D c)), rfl, rfl, ?_, ?_, ?_, ?_, ?_, ?_, ?_, ?_, ?_, ?_, ?_⟩
  · unfold f_X5_pack
    rw [h1]
    rfl
  · unfold f_X9_pack
    rw [show (1 : Int32) = nI 1 from pn_1, pn_gd (show 1 < 4 by omega) (by omega), nI_clamp (show 1 < 2 ^ 31 by omega), hs, m1, d1, e1]
  · rw [upd_s]
  · intro x x1 x3
    rw [upd_n _ x1, e2 x x3, upd_n _ x3]
  · intro i hi hl
    exact ⟨hnk i hi hl, (t2 i hi hl).1, (t2 i hi hl).2.1, (t2 i hi hl).2.2.1⟩
  · intro q hq
    obtain ⟨i, a1, a2, a3⟩ := honto q hq
    obtain ⟨b1, b2, b3, b4⟩ := t2 i a1 a2
    obtain ⟨g1, g2, g3, g4⟩ := e4 i a1 a2
    have hi := hB i a1
    have cp : ∀ f : Nat → Int32, va_cpy f f 300 100 (plN kp c D c) (100 + q) = f (300 + q) := fun f => by
      rw [pk_cpy_in (by omega) (by omega)]; congr 1; omega
    rw [cp, cp, cp, cp]
    have hn2 := hnk i a1 a2
    rw [a3] at b1 b2 b3 b4 g1 g2 g3 g4 hn2
    show fk' q = nI (nN (fk' q)) ∧ hk' (300 + q) = nI (nN (fk' q)) ∧ _
    rw [hn2, b4, g4, g3, b3, g1, g2, b1, b2, hi.2.2.2.1, hi.2.2.2.2]
    exact ⟨rfl, rfl, rfl, rfl, rfl⟩
  · intro q hq
    obtain ⟨i, a1, a2, a3⟩ := honto q hq
    obtain ⟨b1, b2, b3, b4⟩ := t2 i a1 a2
    have hn2 := hnk i a1 a2
    rw [a3] at b1 b2 b3 hn2
    show WI (plN kp c D c) (nN (fk' q)) (fd' q) (fa' q) (fb' q)
    rw [hn2, b1, b2, b3]
    have wi := w i a1
    have hDi : goK (kp i) = false → D i = fd i := fun hgf => by
      have key : ∀ (m j : Nat) (E : Nat → Int32), pkL kp c m j E i = E i := fun m => by
        have k1 : ∀ (x : Nat) (E : Nat → Int32), goK (kp x) = true → gf1 kp c x E i = E i := fun x E hx => by
          unfold gf1
          split
          · rw [upd_n _ (fun z => by rw [z, hx] at hgf; cases hgf)]
          · rfl
        have k2 : ∀ (mm x : Nat) (E : Nat → Int32), goK (kp x) = true → gfN kp c x mm E i = E i := fun mm => by
          induction mm with
          | zero => intro x E _; rfl
          | succ mm ih => intro x E hx; show gfN kp c x mm (gf1 kp c x E) i = E i; rw [ih x _ hx, k1 x E hx]
        induction m with
        | zero => intro j E; rfl
        | succ m ih =>
          intro j E
          show pkL kp c m (j + 1) (if goK (kp j) = true then gfN kp c j 24 E else E) i = E i
          rw [ih]
          by_cases z : goK (kp j) = true
          · rw [if_pos z, k2 24 j E z]
          · rw [if_neg z]
      rw [← hDe]; exact key c 0 fd
    have hpd : goK (kp i) = false → pkD kp c D i = fd i := fun hgf => by
      unfold pkD; rw [if_neg (by rw [hgf]; decide)]; exact hDi hgf
    refine ⟨wi.1, fun hw => ?_, wi.2.2.1, wi.2.2.2.1, fun hgo => ?_, fun hno => ?_, wi.2.2.2.2.2.2.1, wi.2.2.2.2.2.2.2⟩
    · have hgf : goK (kp i) = false := by
        cases e : goK (kp i) with
        | false => rfl
        | true => rw [go_wr _ (hkk i a1) e] at hw; cases hw
      rw [hpd hgf]
      exact wi.2.1 hw
    · obtain ⟨t, ht, et, hnt⟩ := nt_ok hD a1 hgo hc
      refine ⟨plN kp c D t, cn_mono ht, ?_⟩
      unfold pkD
      rw [if_pos hgo, hnt]
    · rw [Bool.or_eq_false_iff] at hno
      rw [hpd hno.2]
      exact wi.2.2.2.2.2.1 (by rw [hno.1, hno.2]; rfl)
  · intro x hx
    rw [pk_cpy_out (by omega), (e3 x (by omega)).1]
  · intro x hx
    rw [pk_cpy_out (by omega), (e3 x (by omega)).2.1]
  · intro x hx
    rw [pk_cpy_out (by omega), (e3 x (by omega)).2.2.1, m2.2 x (by omega)]
  · intro x hx
    rw [pk_cpy_out (by omega), (e3 x (by omega)).2.2.2]
end PK3
