/-! allocate, both sides. -/
section AL8
variable {n L Ls c : Nat} {kp : Nat → Nat} {fa fb fd fk ga gb gd9 gk fs cf ho sa sb sd sk st bf dn hoM pl se : Nat → Int32} {x1 tk al sl vs vc v slM : Int32}
theorem s_al_bad (h : x1 < 2 ∨ ¬ x1 ≤ 8) : f_X8_allocate n Ls L cf ho sa sb sd sk st bf fa fb fd fk tk al sl vs vc x1 = some (1, 0, cf, ho, sa, sb, sd, sk, st, bf, fa, fb, fd, fk, al, sl, vs, vc) := by
  unfold f_X8_allocate
  by_cases z : x1 < 2
  · rw [if_pos z]
  · rw [if_neg z, if_neg (by rcases h with h | h; exact absurd h z; exact h)]
theorem s_al_no (h : ¬ (x1 < 2 ∨ ¬ x1 ≤ 8)) (hn : tk = 0 ∨ ¬ al = 0) : f_X8_allocate n Ls L cf ho sa sb sd sk st bf fa fb fd fk tk al sl vs vc x1 = some (2, 0, cf, ho, sa, sb, sd, sk, st, bf, fa, fb, fd, fk, al, sl, vs, vc) := by
  unfold f_X8_allocate
  have h1 : ¬ x1 < 2 := fun z => h (Or.inl z)
  have h2 : x1 ≤ 8 := Classical.byContradiction (fun z => h (Or.inr z))
  rw [if_neg h1, if_pos h2]
  by_cases z : tk = 0
  · rw [if_pos z]
  · rw [if_neg z, if_neg (by rcases hn with h | h; exact absurd h z; exact h)]
theorem m_al_thr (x2 x3 : Bool) (h : (x2 || x3) = true) : f_X9_allocate_64 n ga gb gd9 dn hoM gk pl se fs v tk al slM x1 (b2i x2) (b2i x3) = some (0, ga, gb, gd9, dn, hoM, gk, pl, se, fs, if x2 = true then 1 else 2, al, slM) := by
  unfold f_X9_allocate_64
  rw [m_throwing, h]
  simp only [Option.bind_some]
  rw [if_neg (show ¬ b2i true = 0 by decide)]
  cases x2 with
  | true => rfl
  | false =>
    have : x3 = true := h
    rw [this]; rfl
theorem m_al_bad (h : x1 < 2 ∨ ¬ x1 ≤ 8) : f_X9_allocate n ga gb gd9 dn hoM gk pl se fs v tk al slM x1 = some (0, ga, gb, gd9, dn, hoM, gk, pl, se, fs, 1, al, slM) := by
  have e16 : f_X9_allocate_16 n ga gb gd9 dn hoM gk pl se fs v tk al slM x1 1 = some (0, ga, gb, gd9, dn, hoM, gk, pl, se, fs, 1, al, slM) := by
    unfold f_X9_allocate_16 f_X9_allocate_36
    have t1 := m_al_thr (n := n) (ga := ga) (gb := gb) (gd9 := gd9) (dn := dn) (hoM := hoM) (gk := gk) (pl := pl) (se := se) (fs := fs) (v := v) (tk := tk) (al := al) (slM := slM) (x1 := x1) true true rfl
    have t0 := m_al_thr (n := n) (ga := ga) (gb := gb) (gd9 := gd9) (dn := dn) (hoM := hoM) (gk := gk) (pl := pl) (se := se) (fs := fs) (v := v) (tk := tk) (al := al) (slM := slM) (x1 := x1) true false rfl
    rw [b2i_t, if_pos rfl] at t1
    rw [b2i_t, b2i_f, if_pos rfl] at t0
    simp only [if_neg (show ¬ (1 : Int32) = 0 by decide)]
    rw [t1, t0]
    split
    · rfl
    · split <;> rfl
  unfold f_X9_allocate
  rw [e16]
  by_cases z : x1 < 2
  · rw [if_pos z]
  · rw [if_neg z, if_neg (by rcases h with h | h; exact absurd h z; exact h)]
theorem m_al_no (h : ¬ (x1 < 2 ∨ ¬ x1 ≤ 8)) (hn : tk = 0 ∨ ¬ al = 0) : f_X9_allocate n ga gb gd9 dn hoM gk pl se fs v tk al slM x1 = some (0, ga, gb, gd9, dn, hoM, gk, pl, se, fs, 2, al, slM) := by
  have h1 : ¬ x1 < 2 := fun z => h (Or.inl z)
  have h2 : x1 ≤ 8 := Classical.byContradiction (fun z => h (Or.inr z))
  have t1 := m_al_thr (n := n) (ga := ga) (gb := gb) (gd9 := gd9) (dn := dn) (hoM := hoM) (gk := gk) (pl := pl) (se := se) (fs := fs) (v := v) (tk := tk) (al := al) (slM := slM) (x1 := x1) false true rfl
  rw [b2i_t, b2i_f, if_neg (by decide)] at t1
  have e36 : f_X9_allocate_36 n ga gb gd9 dn hoM gk pl se fs v tk al slM x1 0 1 = some (0, ga, gb, gd9, dn, hoM, gk, pl, se, fs, 2, al, slM) := by
    unfold f_X9_allocate_36
    rw [if_pos rfl, if_neg (show ¬ (1 : Int32) = 0 by decide)]
    exact t1
  unfold f_X9_allocate f_X9_allocate_16
  rw [if_neg h1, if_pos h2, e36]
  by_cases z : tk = 0
  · rw [if_pos z]
  · rw [if_neg z, if_neg (by rcases hn with h | h; exact absurd h z; exact h)]
/-- a good k, a program: too few registers, or done -/
theorem alloc_both {K : Nat} (hn : 300 < n) (hc : c ≤ 24) (h0 : 0 < c) (hK : 2 ≤ K) (hK8 : K ≤ 8) (hLs : c ≤ Ls) (hLs2 : Ls < 2 ^ 31) (hL : 96 ≤ L) (hLL : L < 2 ^ 31) (hs : fs 1 = nI c) (w : WP c kp fd fa fb) (hB : Both c kp fa fb fd fk ga gb gd9 gk) (hJ : ∀ i, i < c → goK (kp i) = true → ∃ t, t < c ∧ fd i = nI t) :
    ∃ p cf' ho' bf' dn' hoM' se', LvS kp fd fa fb c p ∧
      ((∃ s, f_X8_allocate n Ls L cf ho sa sb sd sk st bf fa fb fd fk 1 0 sl vs (nI c) (nI K) = some (2, 0, cf', ho', sa, sb, sd, sk, st, bf', fa, fb, fd, fk, 0, nI s, vs, nI c) ∧
          f_X9_allocate n ga gb gd9 dn hoM gk pl se fs v 1 0 slM (nI K) = some (0, ga, gb, gd9, dn', hoM', gk, pl, se', fs, 2, 0, nI s)) ∨
       (∃ hm s cq sa' sb' sd' sk' st' ea eb ed ek ga' gb' gd' gk' pl' fs',
          f_X8_allocate n Ls L cf ho sa sb sd sk st bf fa fb fd fk 1 0 sl vs (nI c) (nI K) = some (0, nI s, cf', ho', sa', sb', sd', sk', st', bf', ea, eb, ed, ek, 1, nI s, nI c, nI cq) ∧
          f_X9_allocate n ga gb gd9 dn hoM gk pl se fs v 1 0 slM (nI K) = some (nI s, ga', gb', gd', dn', hoM', gk', pl', se', fs', 0, 1, nI s) ∧
          RelN hm 8 ho' ∧ RelN hm 8 hoM' ∧ (∃ K', HomeOK (itf kp fd fa p c) K' 8 hm s ∧ s ≤ 8 ∧ hm 0 = 0 ∧ hm 1 = 1 ∧ (s = 0 ∧ K' = K ∨ 4 ≤ K ∧ K' = K - 2)) ∧
          fs' 1 = nI cq ∧ (∀ x, x ≠ 1 → x ≠ 3 → fs' x = fs x) ∧ AlFin c kp fd fa fb hm (K - 2) cq ea eb ed ek ga gb gd9 gk ga' gb' gd' gk')) := by
  have hf := fun i hi => (hB i hi).1
  have hk0 := fun i hi => (hB i hi).2.1
  have hd0 := fun i hi => (hB i hi).2.2.1
  have ha0 := fun i hi => (hB i hi).2.2.2.1
  have hb0 := fun i hi => (hB i hi).2.2.2.2
  have l2 : ¬ nI K < (2 : Int32) := fun t => by have := (nI_ltI (b := 2) (show K < 2 ^ 31 by omega) (by decide)).mp t; omega
  have l8 : nI K ≤ (8 : Int32) := (nI_leI (b := 8) (show K < 2 ^ 31 by omega) (by decide)).mpr hK8
  have l4 : ((4 : Int32) ≤ nI K) ↔ 4 ≤ K := nI_leI (a := 4) (by decide) (by omega)
  obtain ⟨bf1, p, f1, f2, f3⟩ := s_find (n := n) (by omega) hc (show c ≤ L by omega) hLL hf w bf
  obtain ⟨cf1, g1, g2⟩ := s_findC (n := n) (by omega) hc h0 (show c ≤ L by omega) hLL hf w f2 cf
  have hCI : ∀ r q, r < 8 → q < r → cfB kp fd fa p c r q = itf kp fd fa p c q r := fun r q hr hq => cf_itf w hr (by omega) (by omega)
  obtain ⟨ho1, s1, s2⟩ := s_settle (n := n) (K := K) (by omega) hK8 g2 hCI ho sl
  obtain ⟨dn1, hoM1, se1, m1, m2⟩ := m_settle (n := n) (K := K) (by omega) hc hK8 hs w hk0 hd0 ha0 hb0 f3 hoM dn se slM
  have okK := stK_ok (I := itf kp fd fa p c) hK8 hK
  generalize hst : stK (itf kp fd fa p c) K = S1 at s1 s2 m1 m2 okK
  have lp := sl_pos (sl := S1.2) (by omega)
  have e8 : f_X8_allocate n Ls L cf ho sa sb sd sk st bf fa fb fd fk 1 0 sl vs (nI c) (nI K) = (if S1.2 = 0 then f_X8_allocate_108 n Ls L cf1 ho1 sa sb sd sk st bf1 fa fb fd fk 1 0 (nI S1.2) vs (nI c) (nI K) else (if 4 ≤ K then ((f_X0_settle n cf1 ho1 (nI S1.2) (nI K - (2 : Int32))).bind (fun u16 => f_X8_allocate_108 n Ls L cf1 u16.2.1 sa sb sd sk st bf1 fa fb fd fk 1 0 u16.2.2 vs (nI c) (nI K))) else some (2, 0, cf1, ho1, sa, sb, sd, sk, st, bf1, fa, fb, fd, fk, 0, nI S1.2, vs, nI c))) := by
    unfold f_X8_allocate
    rw [if_neg l2, if_pos l8, if_neg (show ¬ (1 : Int32) = 0 by decide), if_pos rfl, f1]
    simp only [Option.bind_some]
    rw [g1]
    simp only [Option.bind_some]
    rw [s1]
    simp only [Option.bind_some, lp, l4]
  have e9 : f_X9_allocate n ga gb gd9 dn hoM gk pl se fs v 1 0 slM (nI K) = (if S1.2 = 0 ∨ 4 ≤ K then f_X9_allocate_64 n ga gb gd9 dn1 hoM1 gk pl se1 fs v 1 0 (nI S1.2) (nI K) 0 0 else f_X9_allocate_64 n ga gb gd9 dn1 hoM1 gk pl se1 fs v 1 0 (nI S1.2) (nI K) 0 1) := by
    unfold f_X9_allocate f_X9_allocate_16 f_X9_allocate_36
    rw [if_neg l2, if_pos l8, if_neg (show ¬ (1 : Int32) = 0 by decide), if_pos rfl, if_pos rfl, if_pos rfl, m1]
    simp only [Option.bind_some, lp, l4]
    by_cases z : S1.2 = 0
    · rw [if_pos z, if_pos (Or.inl z)]
    · rw [if_neg z]
      by_cases y : 4 ≤ K
      · rw [if_pos y, if_pos (Or.inr y)]
      · rw [if_neg y, if_neg (fun t => by rcases t with t | t; exact z t; exact y t)]
  by_cases z : S1.2 = 0
  · obtain ⟨cq, sa', sb', sd', sk', st', ea, eb, ed, ek, ga', gb', gd', gk', pl', fs', r1, r2, r3, r4, r5⟩ := al_end (hm := S1.1) hn hc hK hK8 hLs hLs2 hL hLL hs w hB hJ s2 m2 sa sb sd sk st pl dn1 se1 vs 0 1 0 (nI S1.2)
    refine ⟨p, cf1, ho1, bf1, dn1, hoM1, se1, f3, Or.inr ⟨S1.1, S1.2, cq, sa', sb', sd', sk', st', ea, eb, ed, ek, ga', gb', gd', gk', pl', fs', ?_, ?_, s2, m2, ⟨K, okK.1, okK.2.1, okK.2.2.1, okK.2.2.2, Or.inl ⟨z, rfl⟩⟩, r3, r4, r5⟩⟩
    · rw [e8, if_pos z]
      unfold f_X8_allocate_108
      rw [r1]
      rfl
    · rw [e9, if_pos (Or.inl z), m_al64 v 1 (by omega), if_pos z]
      exact r2
  · by_cases y : 4 ≤ K
    · have k2 : nI K - (2 : Int32) = nI (K - 2) := nI_sub (b := 2) hK
      obtain ⟨ho2, t1, t2⟩ := s_settle (n := n) (K := K - 2) (by omega) (by omega) g2 hCI ho1 (nI S1.2)
      obtain ⟨dn2, hoM2, se2, u1, u2⟩ := m_settle (n := n) (K := K - 2) (by omega) hc (by omega) hs w hk0 hd0 ha0 hb0 f3 hoM1 dn1 se1 (nI S1.2)
      have okK2 := stK_ok (I := itf kp fd fa p c) (K := K - 2) (by omega) (by omega)
      generalize hst2 : stK (itf kp fd fa p c) (K - 2) = S2 at t1 t2 u1 u2 okK2
      obtain ⟨cq, sa', sb', sd', sk', st', ea, eb, ed, ek, ga', gb', gd', gk', pl', fs', r1, r2, r3, r4, r5⟩ := al_end (hm := S2.1) hn hc hK hK8 hLs hLs2 hL hLL hs w hB hJ t2 u2 sa sb sd sk st pl dn2 se2 vs 0 1 0 (nI S2.2)
      refine ⟨p, cf1, ho2, bf1, dn2, hoM2, se2, f3, Or.inr ⟨S2.1, S2.2, cq, sa', sb', sd', sk', st', ea, eb, ed, ek, ga', gb', gd', gk', pl', fs', ?_, ?_, t2, u2, ⟨K - 2, okK2.1, okK2.2.1, okK2.2.2.1, okK2.2.2.2, Or.inr ⟨y, rfl⟩⟩, r3, r4, r5⟩⟩
      · rw [e8, if_neg z, if_pos y, k2, t1]
        simp only [Option.bind_some]
        unfold f_X8_allocate_108
        rw [r1]
        rfl
      · rw [e9, if_pos (Or.inr y), m_al64 v 1 (by omega), if_neg z, k2, u1]
        exact r2
    · refine ⟨p, cf1, ho1, bf1, dn1, hoM1, se1, f3, Or.inl ⟨S1.2, ?_, ?_⟩⟩
      · rw [e8, if_neg z, if_neg y]
      · rw [e9, if_neg (fun t => by rcases t with t | t; exact z t; exact y t)]
        have t1 := m_al_thr (n := n) (ga := ga) (gb := gb) (gd9 := gd9) (dn := dn1) (hoM := hoM1) (gk := gk) (pl := pl) (se := se1) (fs := fs) (v := v) (tk := 1) (al := 0) (slM := nI S1.2) (x1 := nI K) false true rfl
        rw [b2i_t, b2i_f, if_neg (by decide)] at t1
        exact t1
end AL8
