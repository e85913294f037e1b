/-! PACK keeps what is sure of a program. -/
section AP
variable {c : Nat} {kp : Nat → Nat} {A B : Nat → Int32}
/-- along NOTHINGs -/
theorem noth {S : FS} {D : Nat → Int32} (hS : ∀ i, i < c → Cl1 S i (kp i) (D i) (A i) (B i)) : ∀ (m t : Nat) {p : RQ}, t + m ≤ c → (∀ z, t ≤ z → z < t + m → kp z = 0) → S t = some p → ∃ p', S (t + m) = some p' ∧ wk p' p
  | 0, t, p, _, _, h => ⟨p, h, wk_rfl p⟩
  | m + 1, t, p, hm, hz, h => by
    have k0 := hz t (Nat.le_refl _) (by omega)
    have hcl := hS t (by omega) p h (fun y => by omega)
    obtain ⟨x, x1, x2⟩ := hcl.1 ⟨by rw [k0]; decide, fun y => by omega⟩
    rw [pst_nw (by rw [k0]; decide)] at x2
    obtain ⟨p', p1, p2⟩ := noth hS m (t + 1) (by omega) (fun z h1 h2 => hz z (by omega) (by omega)) x1
    rw [show t + 1 + m = t + (m + 1) by omega] at p1
    exact ⟨p', p1, wk_tr p2 x2⟩
theorem noth_past {S : FS} {D : Nat → Int32} (hS : ∀ i, i < c → Cl1 S i (kp i) (D i) (A i) (B i)) {t : Nat} {p : RQ} (ht : t ≤ c) (h : S t = some p) : ∃ p', S (past kp c t) = some p' ∧ wk p' p := by
  have hp := past_le (kp := kp) ht
  obtain ⟨p', p1, p2⟩ := noth hS (past kp c t - t) t (by omega) (fun z h1 h2 => psF_z kp (c - t) t z h1 (by show z < past kp c t; omega)) h
  rw [show t + (past kp c t - t) = past kp c t by omega] at p1
  exact ⟨p', p1, p2⟩
theorem go_pst {q : RQ} {k : Nat} {d d' a b : Int32} (hk : k < 15) (h : goK k = true) : pst q k d a b = pst q k d' a b := by
  rw [pst_nw (go_wr k hk h), pst_nw (go_wr k hk h)]
/-- one time of going further keeps all -/
theorem gf1_keeps {S : FS} {D : Nat → Int32} {i : Nat} (hc : c ≤ 24) (hk : ∀ i, i < c → kp i < 15) (hi : i < c) (hg : goK (kp i) = true) (hD : DOK kp c D) (hS : ∀ i, i < c → Cl1 S i (kp i) (D i) (A i) (B i)) (hE : En c kp D) : (∀ j, j < c → Cl1 S j (kp j) (gf1 kp c i D j) (A j) (B j)) ∧ En c kp (gf1 kp c i D) := by
  unfold gf1
  by_cases z : past kp c (nN (D i)) < c ∧ kp (past kp c (nN (D i))) = 9
  · rw [if_pos z]
    obtain ⟨t, t1, t2⟩ := hD i hi hg
    have hnt : nN (D i) = t := by rw [t2]; exact nI_clamp (by omega)
    constructor
    · intro j hj
      by_cases y : j = i
      · rw [y, upd_s]
        intro q hq hn
        have hcl := hS i hi q hq hn
        rw [go_pst (d' := D i) (hk i hi) hg]
        refine ⟨hcl.1, fun hf => ?_⟩
        obtain ⟨p, p1, p2⟩ := hcl.2 hf
        obtain ⟨p', p3, p4⟩ := noth_past hS (by omega) p1
        obtain ⟨p'', p5, p6⟩ := (hS _ z.1 p' p3 (fun t => by omega)).2 ⟨by rw [z.2]; decide, fun t => by omega⟩
        rw [pst_nw (by rw [z.2]; decide)] at p6
        exact ⟨p'', p5, wk_tr p6 (wk_tr p4 p2)⟩
      · rw [upd_n _ y]; exact hS j hj
    · obtain ⟨l, l1, l2, l3, l4, l5⟩ := hE
      refine ⟨l, l1, l2, l3, l4, fun j hj hgj => ?_⟩
      by_cases y : j = i
      · rw [y, upd_s]; exact l5 _ z.1 (by rw [z.2]; decide)
      · rw [upd_n _ y]; exact l5 j hj hgj
  · rw [if_neg z]; exact ⟨hS, hE⟩
theorem gfN_keeps {S : FS} {i : Nat} (hc : c ≤ 24) (hk : ∀ i, i < c → kp i < 15) (hi : i < c) (hg : goK (kp i) = true) : ∀ (m : Nat) {D : Nat → Int32}, DOK kp c D → (∀ i, i < c → Cl1 S i (kp i) (D i) (A i) (B i)) → En c kp D → (∀ j, j < c → Cl1 S j (kp j) (gfN kp c i m D j) (A j) (B j)) ∧ En c kp (gfN kp c i m D)
  | 0, _, _, h1, h2 => ⟨h1, h2⟩
  | m + 1, D, h0, h1, h2 => by
    obtain ⟨a, b⟩ := gf1_keeps hc hk hi hg h0 h1 h2
    exact gfN_keeps hc hk hi hg m (gf1_ok hc h0 hg) a b
theorem pkL_keeps {S : FS} (hc : c ≤ 24) (hk : ∀ i, i < c → kp i < 15) : ∀ (m i : Nat) {D : Nat → Int32}, i + m ≤ c → DOK kp c D → (∀ i, i < c → Cl1 S i (kp i) (D i) (A i) (B i)) → En c kp D → (∀ j, j < c → Cl1 S j (kp j) (pkL kp c m i D j) (A j) (B j)) ∧ En c kp (pkL kp c m i D)
  | 0, _, _, _, _, h1, h2 => ⟨h1, h2⟩
  | m + 1, i, D, hm, h0, h1, h2 => by
    unfold pkL
    by_cases z : goK (kp i) = true
    · rw [if_pos z]
      obtain ⟨a, b⟩ := gfN_keeps hc hk (show i < c by omega) z 24 h0 h1 h2
      exact pkL_keeps hc hk m (i + 1) (by omega) (gfN_ok hc z 24 h0) a b
    · rw [if_neg z]; exact pkL_keeps hc hk m (i + 1) (by omega) h0 h1 h2
/-- the index of the q-th one -/
def srcF (f : Nat → Bool) : Nat → Nat → Nat
  | 0, _ => 0
  | m + 1, q => if q < cnN f m then srcF f m q else m
theorem srcF_ok (f : Nat → Bool) : ∀ (m q : Nat), q < cnN f m → srcF f m q < m ∧ f (srcF f m q) = true ∧ cnN f (srcF f m q) = q
  | 0, q, h => absurd h (Nat.not_lt_zero _)
  | m + 1, q, h => by
    unfold srcF
    by_cases z : q < cnN f m
    · rw [if_pos z]
      have := srcF_ok f m q z
      exact ⟨by omega, this.2⟩
    · rw [if_neg z]
      rw [cn_s] at h
      by_cases y : f m = true
      · rw [if_pos y] at h; exact ⟨by omega, y, by omega⟩
      · rw [if_neg y] at h; omega
theorem srcF_pl {f : Nat → Bool} {m i : Nat} (hi : i < m) (hf : f i = true) : srcF f m (cnN f i) = i := by
  obtain ⟨h1, h2, h3⟩ := srcF_ok f m (cnN f i) (cn_lt hi hf)
  by_cases z : srcF f m (cnN f i) < i
  · have := cn_lt z h2; omega
  · by_cases y : i < srcF f m (cnN f i)
    · have := cn_lt y hf; omega
    · omega
theorem cn_const {f : Nat → Bool} : ∀ (m t : Nat), (∀ x, t ≤ x → x < t + m → f x = false) → cnN f (t + m) = cnN f t
  | 0, t, _ => rfl
  | m + 1, t, h => by
    have h1 := cn_const m t (fun x h1 h2 => h x h1 (by omega))
    show cnN f (t + m) + (if f (t + m) = true then 1 else 0) = cnN f t
    rw [h1, if_neg (by rw [h (t + m) (by omega) (by omega)]; decide), Nat.add_zero (cnN f t)]
theorem pack_arrive {S : FS} {D : Nat → Int32} (hc : c ≤ 24) (hk : ∀ i, i < c → kp i < 15) (hD : DOK kp c D) (hS : ∀ i, i < c → Cl1 S i (kp i) (D i) (A i) (B i)) (hSc : S c = none) : ∀ (m t : Nat) {p : RQ}, t + m = c → S t = some p → plN kp c D t < plN kp c D c ∧ ∃ p', S (srcF (fun j => !lvs kp c D j) c (plN kp c D t)) = some p' ∧ wk p' p := by
  intro m
  induction m using Nat.strongRecOn with
  | _ m ih =>
    intro t p hm hp
    by_cases hm0 : m = 0
    · rw [show t = c by omega, hSc] at hp; cases hp
    · have htc : t < c := by omega
      cases el : lvs kp c D t with
      | false =>
        have hst : (fun j => !lvs kp c D j) t = true := by show (!lvs kp c D t) = true; rw [el]; rfl
        refine ⟨cn_lt htc hst, p, ?_, wk_rfl p⟩
        rw [show plN kp c D t = cnN (fun j => !lvs kp c D j) t from rfl, srcF_pl htc hst]
        exact hp
      | true =>
        -- it goes on to a later place, with nothing left between
        have go : ∀ u p1, t < u → u ≤ c → (∀ x, t ≤ x → x < u → lvs kp c D x = true) → S u = some p1 → wk p1 p → plN kp c D t < plN kp c D c ∧ ∃ p', S (srcF (fun j => !lvs kp c D j) c (plN kp c D t)) = some p' ∧ wk p' p := fun u p1 h1 h2 h3 h4 h5 => by
          have e : plN kp c D u = plN kp c D t := by
            have := cn_const (f := fun j => !lvs kp c D j) (u - t) t (fun x a1 a2 => by show (!lvs kp c D x) = false; rw [h3 x a1 (by omega)]; rfl)
            rw [show t + (u - t) = u by omega] at this
            exact this
          obtain ⟨r1, p', r2, r3⟩ := ih (c - u) (by omega) u (by omega) h4
          rw [e] at r1 r2
          exact ⟨r1, p', r2, wk_tr r3 h5⟩
        have hz : ∀ x, x < c → kp x = 0 → lvs kp c D x = true := fun x _ h => by unfold lvs; rw [h]; rfl
        by_cases k0 : kp t = 0
        · obtain ⟨x, x1, x2⟩ := (hS t htc p hp (fun y => by omega)).1 ⟨by rw [k0]; decide, fun y => by omega⟩
          rw [pst_nw (by rw [k0]; decide)] at x2
          exact go (t + 1) x (by omega) (by omega) (fun z h1 h2 => by rw [show z = t by omega]; exact el) x1 x2
        · unfold lvs at el
          have hk0 : (kp t == 0) = false := by simp [k0]
          rw [hk0, Bool.false_or, Bool.and_eq_true, beq_iff_eq, beq_iff_eq] at el
          obtain ⟨k9, hpast⟩ := el
          obtain ⟨d, d1, d2⟩ := hD t htc (by rw [k9]; decide)
          have hnd : nN (D t) = d := by rw [d2]; exact nI_clamp (by omega)
          obtain ⟨x, x1, x2⟩ := (hS t htc p hp (fun y => by omega)).2 ⟨by rw [k9]; decide, fun y => by omega⟩
          rw [pst_nw (by rw [k9]; decide)] at x2
          obtain ⟨y, y1, y2⟩ := noth_past hS (by omega) x1
          rw [hpast] at y1
          have hle := past_le (kp := kp) (show t + 1 ≤ c by omega)
          refine go (past kp c (t + 1)) y (by omega) hle.2 (fun z h1 h2 => ?_) y1 (wk_tr y2 x2)
          by_cases e : z = t
          · rw [e]; unfold lvs; rw [k9, hpast]; simp
          · exact hz z (by omega) (psF_z kp (c - (t + 1)) (t + 1) z (by omega) h2)
theorem pack_keeps {D0 D : Nat → Int32} {cq : Nat} {fa' fb' fd' fk' : Nat → Int32} (hc : c ≤ 24) (w : WP c kp D0 A B) (hA : Ann c kp D0 A B) (hE : En c kp D0) (hD : D = pkL kp c c 0 D0) (hcq : cq = plN kp c D c)
    (hrow : ∀ i, i < c → lvs kp c D i = false → nN (fk' (plN kp c D i)) = kp i ∧ fa' (plN kp c D i) = A i ∧ fb' (plN kp c D i) = B i ∧ fd' (plN kp c D i) = pkD kp c D i) : Ann cq (fun q => nN (fk' q)) fd' fa' fb' ∧ En cq (fun q => nN (fk' q)) fd' ∧ 0 < cq := by
  have hk : ∀ i, i < c → kp i < 15 := fun i hi => by have := (w i hi).1; omega
  have hD0 : DOK kp c D0 := fun i hi hg => (w i hi).2.2.2.2.1 hg
  obtain ⟨S, ⟨p0, s1, s2⟩, s3, s4⟩ := hA
  obtain ⟨cl, hE⟩ := pkL_keeps (S := S) hc hk c 0 (by omega) hD0 s4 hE
  have hDk := pkL_ok (kp := kp) hc c 0 hD0
  rw [← hD] at cl hE hDk
  have arr := fun t p (ht : t ≤ c) (h : S t = some p) => pack_arrive hc hk hDk cl s3 (c - t) t (by omega) h
  obtain ⟨a1, p1, a2, a3⟩ := arr 0 p0 (by omega) s1
  have hpl0 : plN kp c D 0 = 0 := rfl
  rw [hpl0] at a1 a2
  refine ⟨⟨fun q => if q < cq then S (srcF (fun j => !lvs kp c D j) c q) else none, ⟨p1, ?_, wk_tr a3 s2⟩, if_neg (Nat.lt_irrefl _), fun q hq => ?_⟩, ?_, by omega⟩
  · show (if 0 < cq then _ else none) = _
    rw [if_pos (by omega)]; exact a2
  · -- an instruction that stays
    rw [hcq] at hq
    obtain ⟨i1, i2, i3⟩ := srcF_ok (fun j => !lvs kp c D j) c q hq
    generalize hi : srcF (fun j => !lvs kp c D j) c q = i at i1 i2 i3
    have hst : lvs kp c D i = false := by
      have i2 : (!lvs kp c D i) = true := i2
      cases e : lvs kp c D i with
      | false => rfl
      | true => rw [e] at i2; cases i2
    obtain ⟨r1, r2, r3, r4⟩ := hrow i i1 hst
    have i3 : plN kp c D i = q := i3
    rw [i3] at r1 r2 r3 r4
    have hnext : plN kp c D (i + 1) = q + 1 := by rw [plN, cn_s, show cnN (fun j => !lvs kp c D j) i = q from i3, hst]; rfl
    have r1 : nN (fk' q) = kp i := r1
    show Cl1 _ q (nN (fk' q)) (fd' q) (fa' q) (fb' q)
    rw [r1, r2, r3, r4]
    intro x hx hn
    have hx : (if q < cq then S (srcF (fun j => !lvs kp c D j) c q) else none) = some x := hx
    rw [hcq, if_pos hq, hi] at hx
    have hcl := cl i i1 x hx hn
    have hp : pst x (kp i) (pkD kp c D i) (A i) (B i) = pst x (kp i) (D i) (A i) (B i) := by
      by_cases hg : goK (kp i) = true
      · exact go_pst (hk i i1) hg
      · have : pkD kp c D i = D i := by unfold pkD; rw [if_neg hg]
        rw [this]
    rw [hp]
    have land : ∀ t p, t ≤ c → S t = some p → wk p (pst x (kp i) (D i) (A i) (B i)) → ∃ p', (if plN kp c D t < cq then S (srcF (fun j => !lvs kp c D j) c (plN kp c D t)) else none) = some p' ∧ wk p' (pst x (kp i) (D i) (A i) (B i)) := fun t p ht h1 h2 => by
      obtain ⟨b1, p', b2, b3⟩ := arr t p ht h1
      exact ⟨p', by rw [hcq, if_pos b1]; exact b2, wk_tr b3 h2⟩
    constructor
    · intro hf
      obtain ⟨p, p1, p2⟩ := hcl.1 hf
      have := land (i + 1) p (by omega) p1 p2
      rw [hnext] at this
      exact this
    · intro hf
      obtain ⟨p, p1, p2⟩ := hcl.2 hf
      obtain ⟨t, t1, t2⟩ := hDk i i1 hf.1
      have hnt : nN (D i) = t := by rw [t2]; exact nI_clamp (by omega)
      have := land (nN (D i)) p (by omega) p1 p2
      have hpd : nN (pkD kp c D i) = plN kp c D (nN (D i)) := by
        unfold pkD
        rw [if_pos hf.1]
        exact nI_clamp (by have : plN kp c D (nN (D i)) ≤ nN (D i) := cnN_le _ _; omega)
      rw [hpd]
      exact this
  · obtain ⟨l, l1, l2, l3, l4, l5⟩ := hE
    have hpl1 : past kp c (l + 1) = c := by
      have hle := past_le (kp := kp) (show l + 1 ≤ c by omega)
      by_cases z : past kp c (l + 1) < c
      · have := psF_ne kp (c - (l + 1)) (l + 1) (by show past kp c (l + 1) < _; omega)
        exact absurd (l4 _ (by omega) z) this
      · omega
    have hstay : lvs kp c D l = false := by
      unfold lvs
      have hk0 : (kp l == 0) = false := by simp [l2]
      rw [hk0, Bool.false_or]
      cases e9 : kp l == 9 with
      | false => rfl
      | true =>
        rw [Bool.true_and, hpl1]
        have k9 : kp l = 9 := beq_iff_eq.mp e9
        have hle := l5 l l1 (by rw [k9]; decide)
        have hne : ¬ past kp c (nN (D l)) = c := fun t => by
          have := psF_z kp (c - nN (D l)) (nN (D l)) l hle (by show l < past kp c (nN (D l)); omega)
          exact l2 this
        exact beq_eq_false_iff_ne.mpr hne
    have hlast : plN kp c D c = plN kp c D l + 1 := by
      have h1 : plN kp c D (l + 1) = plN kp c D l + 1 := by rw [plN, cn_s, hstay]; rfl
      have h2 := cn_const (f := fun j => !lvs kp c D j) (c - (l + 1)) (l + 1) (fun x a1 a2 => by
        show (!lvs kp c D x) = false
        have : lvs kp c D x = true := by unfold lvs; rw [l4 x (by omega) (by omega)]; rfl
        rw [this]; rfl)
      rw [show l + 1 + (c - (l + 1)) = c by omega] at h2
      exact h2.trans h1
    obtain ⟨r1, _⟩ := hrow l l1 hstay
    refine ⟨plN kp c D l, by omega, ?_, ?_, fun i h1 h2 => by omega, fun q hq hg => ?_⟩
    · show ¬ nN (fk' (plN kp c D l)) = 0
      rw [r1]; exact l2
    · show onK (nN (fk' (plN kp c D l))) = false
      rw [r1]; exact l3
    · rw [hcq] at hq
      obtain ⟨i1, i2, i3⟩ := srcF_ok (fun j => !lvs kp c D j) c q hq
      generalize srcF (fun j => !lvs kp c D j) c q = i at i1 i2 i3
      have hst : lvs kp c D i = false := by
        have i2 : (!lvs kp c D i) = true := i2
        cases e : lvs kp c D i with
        | false => rfl
        | true => rw [e] at i2; cases i2
      obtain ⟨r1, r2, r3, r4⟩ := hrow i i1 hst
      have i3 : plN kp c D i = q := i3
      rw [i3] at r1 r4
      have hg : goK (nN (fk' q)) = true := hg
      rw [r1] at hg
      obtain ⟨t, t1, t2⟩ := hDk i i1 hg
      have hnt : nN (D i) = t := by rw [t2]; exact nI_clamp (by omega)
      have hle := l5 i i1 hg
      rw [r4]
      unfold pkD
      rw [if_pos hg, nN, nI_clamp (by have : plN kp c D (nN (D i)) ≤ nN (D i) := cnN_le _ _; omega)]
      exact cn_mono hle
end AP
