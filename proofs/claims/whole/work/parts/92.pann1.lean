/-! No run leaves a program: annotations. -/
def wk (p q : RQ) : Prop := ∀ r v, p r = some v → q r = some v
theorem wk_rfl (p : RQ) : wk p p := fun _ _ h => h
theorem wk_tr {p q r : RQ} (h1 : wk p q) (h2 : wk q r) : wk p r := fun x v h => h2 x v (h1 x v h)
/-- instruction i does not stop, and its flows arrive weaker -/
def Cl1 (S : FS) (i k : Nat) (d a b : Int32) : Prop := ∀ q, S i = some q → ¬ (k = 6 ∧ q (nN b) = some 0) →
  ((faK k = true ∧ ¬ (k = 10 ∧ q (nN a) = some 0)) → ∃ p, S (i + 1) = some p ∧ wk p (pst q k d a b)) ∧
  ((goK k = true ∧ (k = 10 → (q (nN a)).isSome = true → q (nN a) = some 0)) → ∃ p, S (nN d) = some p ∧ wk p (pst q k d a b))
def Ann (c : Nat) (kp : Nat → Nat) (D A B : Nat → Int32) : Prop := ∃ S : FS, (∃ p, S 0 = some p ∧ wk p q0) ∧ S c = none ∧ ∀ i, i < c → Cl1 S i (kp i) (D i) (A i) (B i)
/-- the last instruction that is left, and where jumps go -/
def En (c : Nat) (kp : Nat → Nat) (D : Nat → Int32) : Prop := ∃ l, l < c ∧ ¬ kp l = 0 ∧ onK (kp l) = false ∧ (∀ i, l < i → i < c → kp i = 0) ∧ ∀ i, i < c → goK (kp i) = true → nN (D i) ≤ l
section AN
variable {c : Nat} {kp : Nat → Nat} {D A B : Nat → Int32}
theorem WI_WA {k : Nat} {d a b : Int32} (hc : c ≤ 96) (w : WI c k d a b) : WA k d a b := by
  have n13 : (k == 13) = false := by have := w.1; simp; omega
  have n14 : (k == 14) = false := by have := w.1; simp; omega
  refine ⟨by have := w.1; omega, fun h => ?_, fun h => ?_, fun h => ?_, fun h => ?_⟩
  · rw [n13, Bool.or_false] at h; exact w.2.1 h
  · rw [n13, n14, Bool.or_false, Bool.or_false] at h; exact w.2.2.1 h
  · rw [n14, Bool.or_false] at h; exact w.2.2.2.1 h
  · obtain ⟨t, h1, h2⟩ := w.2.2.2.2.1 h
    exact ⟨t, by omega, h2⟩
theorem pst_ok {k : Nat} {d a b : Int32} {q : RQ} {R : Nat → Int32} {v : Int32} (w : WI c k d a b) (hq : ∀ r v, q r = some v → R r = v) (h1 : k = 1 → v = a) (h2 : k = 2 → v = R (nN a)) (h3 : arK k = true → v = evK k (R (nN a)) (R (nN b))) : ∀ r u, pst q k d a b r = some u → nxR k d R v r = u := by
  intro r u h
  have n13 : (k == 13) = false := by have := w.1; simp; omega
  unfold nxR
  unfold pst at h
  rw [n13, Bool.or_false]
  by_cases ew : wrK k = true
  · rw [if_pos ew] at h ⊢
    have h : (if r = nN d then gv q k a b else q r) = some u := h
    by_cases z : r = nN d
    · rw [if_pos z] at h
      rw [z, upd_s]
      unfold gv at h
      by_cases k1 : k = 1
      · rw [if_pos k1] at h; rw [h1 k1]; exact Option.some.inj h
      rw [if_neg k1] at h
      by_cases k2 : k = 2
      · rw [if_pos k2] at h; rw [h2 k2]; exact hq _ _ h
      rw [if_neg k2] at h
      by_cases ka : arK k = true
      · rw [if_pos ka] at h
        cases e1 : q (nN a) with
        | none => rw [e1] at h; cases h
        | some x => cases e2 : q (nN b) with
          | none => rw [e1, e2] at h; cases h
          | some y =>
            rw [e1, e2] at h
            simp only [Option.bind_some] at h
            by_cases y6 : k = 6 ∧ y = 0
            · rw [if_pos y6] at h; cases h
            · rw [if_neg y6] at h
              rw [h3 ka, hq _ _ e1, hq _ _ e2]
              exact Option.some.inj h
      · rw [if_neg ka] at h; cases h
    · rw [if_neg z] at h
      rw [upd_n _ z]
      exact hq r u h
  · rw [if_neg ew] at h ⊢
    exact hq r u h
theorem ann_nf (hc : c ≤ 96) (h0 : 0 < c) (w : WP c kp D A B) (h : Ann c kp D A B) : NF c kp D A B := by
  obtain ⟨S, ⟨p0, s1, s2⟩, s3, s4⟩ := h
  refine ⟨fun i R _ => i < c ∧ ∃ q, S i = some q ∧ ∀ r v, q r = some v → R r = v, fun R Sl hI => ⟨h0, p0, s1, fun r v hv => ?_⟩, fun i R Sl h => h.1, fun i R Sl j R' Sl' h hx => ?_⟩
  · have := s2 r v hv
    unfold q0 at this
    by_cases z : 2 ≤ r ∧ r < 8
    · rw [if_pos z] at this; rw [hI.1 r z.1 z.2]; exact Option.some.inj this
    · rw [if_neg z] at this; cases this
  · obtain ⟨hi, q, hq, hR⟩ := h
    obtain ⟨n12, n6, hj, hS, v, hv, v1, v2, v3, v4⟩ := hx
    have wi := w i hi
    have hstop : ¬ (kp i = 6 ∧ q (nN (B i)) = some 0) := fun t => n6 ⟨t.1, hR _ _ t.2⟩
    have hcl := s4 i hi q hq hstop
    have hp := pst_ok (v := v) wi hR v1 v2 v3
    have arrive : ∀ t, t ≤ c → (∃ p, S t = some p ∧ wk p (pst q (kp i) (D i) (A i) (B i))) → j = t → j < c ∧ ∃ q, S j = some q ∧ ∀ r v, q r = some v → R' r = v := fun t ht ⟨p, p1, p2⟩ hjt => by
      have : t ≠ c := fun z => by rw [z, s3] at p1; cases p1
      refine ⟨by omega, p, by rw [hjt]; exact p1, fun r u hu => ?_⟩
      rw [hv]
      exact hp r u (p2 r u hu)
    by_cases hg : kp i = 9 ∨ (kp i = 10 ∧ R (nN (A i)) = 0)
    · have hgo : goK (kp i) = true := by
        rcases hg with h | h
        · rw [h]; decide
        · rw [h.1]; decide
      obtain ⟨t, ht, et⟩ := wi.2.2.2.2.1 hgo
      have hnt : nN (D i) = t := by rw [et]; exact nI_clamp (by omega)
      refine arrive (nN (D i)) (by omega) (hcl.2 ⟨hgo, fun k10 hs => ?_⟩) (by rw [hj]; unfold nxJ; rw [if_pos hg])
      cases e : q (nN (A i)) with
      | none => rw [e] at hs; cases hs
      | some u =>
        have h0 : R (nN (A i)) = 0 := by
          rcases hg with h | h
          · omega
          · exact h.2
        rw [← hR _ _ e, h0]
    · refine arrive (i + 1) (by omega) (hcl.1 ⟨?_, fun t => hg (Or.inr ⟨t.1, hR _ _ t.2⟩)⟩) (by rw [hj]; unfold nxJ; rw [if_neg hg])
      unfold faK
      have a1 : ¬ kp i = 9 := fun t => hg (Or.inl t)
      simp [a1, n12]
/-- a program as it is taken -/
theorem ann_orig (h0 : 0 < c) (hc : c ≤ 24) (w : WP c kp D A B) (hlast : kp (c - 1) = 9 ∨ kp (c - 1) = 12) (hgo : ∀ i, i < c → goK (kp i) = true → nN (D i) < c) : Ann c kp D A B ∧ En c kp D := by
  refine ⟨⟨fun i => if i < c then some (fun _ => none) else none, ⟨fun _ => none, if_pos h0, fun _ _ h => by cases h⟩, if_neg (Nat.lt_irrefl c), fun i hi q hq _ => ⟨fun hf => ?_, fun hg => ?_⟩⟩, c - 1, by omega, ?_, ?_, fun i h1 h2 => by omega, fun i hi hg => by have := hgo i hi hg; omega⟩
  · have hne : i + 1 < c := by
      by_cases z : i + 1 < c
      · exact z
      · exfalso
        have e : i = c - 1 := by omega
        have h1 := hf.1
        rw [e] at h1
        rcases hlast with h | h <;> rw [h] at h1 <;> exact absurd h1 (by decide)
    exact ⟨fun _ => none, if_pos hne, fun _ _ h => by cases h⟩
  · exact ⟨fun _ => none, if_pos (hgo i hi hg.1), fun _ _ h => by cases h⟩
  · rcases hlast with h | h <;> omega
  · rcases hlast with h | h <;> rw [h] <;> decide
theorem gv_wk {p q : RQ} {k : Nat} {a b : Int32} {v : Int32} (h : wk p q) (hv : gv p k a b = some v) : gv q k a b = some v := by
  unfold gv at hv ⊢
  by_cases k1 : k = 1
  · rw [if_pos k1] at hv ⊢; exact hv
  rw [if_neg k1] at hv ⊢
  by_cases k2 : k = 2
  · rw [if_pos k2] at hv ⊢; exact h _ _ hv
  rw [if_neg k2] at hv ⊢
  by_cases ka : arK k = true
  · rw [if_pos ka] at hv ⊢
    cases e1 : p (nN a) with
    | none => rw [e1] at hv; cases hv
    | some x => cases e2 : p (nN b) with
      | none => rw [e1, e2] at hv; cases hv
      | some y => rw [e1, e2] at hv; rw [h _ _ e1, h _ _ e2]; exact hv
  · rw [if_neg ka] at hv; cases hv
theorem pst_wk {p q : RQ} {k : Nat} {d a b : Int32} (h : wk p q) : wk (pst p k d a b) (pst q k d a b) := fun r v hv => by
  unfold pst at hv ⊢
  by_cases ew : wrK k = true
  · rw [if_pos ew] at hv ⊢
    have hv : (if r = nN d then gv p k a b else p r) = some v := hv
    show (if r = nN d then gv q k a b else q r) = some v
    by_cases z : r = nN d
    · rw [if_pos z] at hv ⊢; exact gv_wk h hv
    · rw [if_neg z] at hv ⊢; exact h r v hv
  · rw [if_neg ew] at hv ⊢; exact h r v hv
/-- T is at least as sharp as S -/
def LeS (T S : FS) : Prop := ∀ i q, T i = some q → ∃ p, S i = some p ∧ wk p q
theorem jn_wk {p q r : RQ} (h1 : wk r p) (h2 : wk r q) : wk r (jn p q) := fun x v hv => by
  unfold jn
  rw [h1 x v hv, h2 x v hv, if_pos rfl]
theorem cm_le2 {T S : FS} {t : Nat} {q : RQ} (h : LeS T S) (ht : ∃ p, S t = some p ∧ wk p q) : LeS (cm T t q) S := fun i x hx => by
  unfold cm at hx
  by_cases z : i = t
  · rw [if_pos z] at hx
    obtain ⟨p, p1, p2⟩ := ht
    rw [z]
    refine ⟨p, p1, ?_⟩
    cases e : T t with
    | none => rw [e] at hx; cases hx; exact p2
    | some y =>
      rw [e] at hx
      cases hx
      obtain ⟨p', p3, p4⟩ := h t y e
      rw [p1] at p3
      cases p3
      exact jn_wk p4 p2
  · rw [if_neg z] at hx; exact h i x hx
theorem flw_le {T S : FS} {i k : Nat} {d a b : Int32} (h : LeS T S) (hS : Cl1 S i k d a b) : LeS (flw T i k d a b) S := by
  unfold flw
  cases e : T i with
  | none => exact h
  | some q =>
    show LeS (if _ then _ else _) S
    obtain ⟨p, p1, p2⟩ := h i q e
    by_cases z : k = 6 ∧ q (nN b) = some 0
    · rw [if_pos z]; exact h
    · rw [if_neg z]
      have hs : ¬ (k = 6 ∧ p (nN b) = some 0) := fun t => z ⟨t.1, p2 _ _ t.2⟩
      have hcl := hS p p1 hs
      have h1 : LeS (if faK k = true ∧ ¬ (k = 10 ∧ q (nN a) = some 0) then cm T (i + 1) (pst q k d a b) else T) S := by
        by_cases y : faK k = true ∧ ¬ (k = 10 ∧ q (nN a) = some 0)
        · rw [if_pos y]
          obtain ⟨p', p3, p4⟩ := hcl.1 ⟨y.1, fun t => y.2 ⟨t.1, p2 _ _ t.2⟩⟩
          exact cm_le2 h ⟨p', p3, wk_tr p4 (pst_wk p2)⟩
        · rw [if_neg y]; exact h
      show LeS (if _ then _ else _) S
      by_cases x : goK k = true ∧ (k = 10 → (q (nN a)).isSome = true → q (nN a) = some 0)
      · rw [if_pos x]
        obtain ⟨p', p3, p4⟩ := hcl.2 ⟨x.1, fun k10 hs2 => by
          cases e2 : p (nN a) with
          | none => rw [e2] at hs2; cases hs2
          | some u =>
            have := p2 _ _ e2
            have h3 := x.2 k10 (by rw [this]; rfl)
            rw [this] at h3
            exact h3⟩
        exact cm_le2 h1 ⟨p', p3, wk_tr p4 (pst_wk p2)⟩
      · rw [if_neg x]; exact h1
theorem rn_le {S : FS} (hS : ∀ i, i < c → Cl1 S i (kp i) (D i) (A i) (B i)) : ∀ (m j : Nat) {T : FS}, m + j ≤ c → LeS T S → LeS (rn kp D A B m j T) S
  | 0, _, _, _, h => h
  | m + 1, j, _, hm, h => rn_le hS m (j + 1) (by omega) (flw_le h (hS j (by omega)))
theorem itn_le {S : FS} (hS : ∀ i, i < c → Cl1 S i (kp i) (D i) (A i) (B i)) : ∀ (p : Nat) {T : FS}, LeS T S → LeS (itn (rnd kp D A B c) p T) S
  | 0, _, h => h
  | p + 1, _, h => itn_le hS p (rn_le hS c 0 (by omega) h)
theorem itn_TS (w : WP c kp D A B) : ∀ (p : Nat) {T : FS}, TS T → TS (itn (rnd kp D A B c) p T)
  | 0, _, h => h
  | p + 1, _, h => itn_TS w p (rn_T w c 0 (by omega) h)
/-- only states up to c are touched -/
theorem flw_hi {S : FS} {i x : Nat} {k : Nat} {d a b : Int32} (hi : i < c) (hc : c ≤ 24) (w : WI c k d a b) (hx : c < x) : flw S i k d a b x = S x := by
  have hcm : ∀ (T : FS) (t : Nat) (q : RQ), t ≤ c → cm T t q x = T x := fun T t q ht => by unfold cm; rw [if_neg (by omega)]
  unfold flw
  cases e : S i with
  | none => rfl
  | some q =>
    show (if _ then _ else _ : FS) x = S x
    have h1 : (if faK k = true ∧ ¬ (k = 10 ∧ q (nN a) = some 0) then cm S (i + 1) (pst q k d a b) else S) x = S x := by
      split
      · exact hcm _ _ _ (by omega)
      · rfl
    split
    · rfl
    · show (if _ then _ else _ : FS) x = S x
      split
      · rename_i hg
        obtain ⟨t, ht, et⟩ := w.2.2.2.2.1 hg.1
        rw [hcm _ _ _ (by rw [et, nN, nI_clamp (by omega)]; exact ht)]
        exact h1
      · exact h1
theorem rn_hi {x : Nat} (hc : c ≤ 24) (w : WP c kp D A B) (hx : c < x) : ∀ (m j : Nat) {S : FS}, m + j ≤ c → rn kp D A B m j S x = S x
  | 0, _, _, _ => rfl
  | m + 1, j, S, hm => by
    show rn kp D A B m (j + 1) (flw S j (kp j) (D j) (A j) (B j)) x = S x
    rw [rn_hi hc w hx m (j + 1) (by omega), flw_hi (by omega) hc (w j (by omega)) hx]
theorem flw_mu {S : FS} {i k : Nat} {d a b : Int32} (hi : i < c) (hc : c ≤ 24) (w : WI c k d a b) (hS : TS S) : mu (flw S i k d a b) ≤ mu S ∧ (mu (flw S i k d a b) = mu S → Cl1 S i k d a b ∧ flw S i k d a b = S) := by
  have fixd : ∀ {T : FS} {t : Nat} {q : RQ}, TS T → t ≤ c → mu (cm T t q) = mu T → cm T t q = T := fun {T t q} hT ht he => by
    rcases cm_mu (q := q) hT (show t < 26 by omega) with h | h
    · exact h
    · omega
  have arr : ∀ {T : FS} {t : Nat} {q : RQ}, cm T t q = T → ∃ p, T t = some p ∧ wk p q := fun {T t q} he => by
    have h2 := congrFun he t
    unfold cm at h2
    rw [if_pos rfl] at h2
    cases e : T t with
    | none => rw [e] at h2; cases h2
    | some p =>
      rw [e] at h2
      refine ⟨p, rfl, fun r v hv => ?_⟩
      have h3 : jn p q = p := Option.some.inj h2
      have : jn p q r = p r := by rw [h3]
      rw [hv] at this
      exact (jn_some this).2
  unfold Cl1
  cases e : S i with
  | none =>
    have ef : flw S i k d a b = S := by unfold flw; rw [e]
    rw [ef]
    exact ⟨Nat.le_refl _, fun _ => ⟨(fun q hq => by cases hq), rfl⟩⟩
  | some q =>
    rw [flw_eq e]
    by_cases z : k = 6 ∧ q (nN b) = some 0
    · rw [if_pos z]
      exact ⟨Nat.le_refl _, fun _ => ⟨(fun q' hq' hn => by cases hq'; exact absurd z hn), rfl⟩⟩
    · rw [if_neg z]
      have hT := pst_T w (hS i q e)
      unfold flw2
      generalize hq' : pst q k d a b = q' at hT ⊢
      by_cases y : faK k = true ∧ ¬ (k = 10 ∧ q (nN a) = some 0)
      · have l1 := cm_le (q := q') hS (show i + 1 < 26 by omega)
        have hT1 := cm_T (t := i + 1) hS hT
        by_cases x : goK k = true ∧ (k = 10 → (q (nN a)).isSome = true → q (nN a) = some 0)
        · obtain ⟨t, ht, et⟩ := w.2.2.2.2.1 x.1
          have hnt : nN d ≤ c := by rw [et, nN, nI_clamp (by omega)]; exact ht
          have l2 := cm_le (q := q') hT1 (show nN d < 26 by omega)
          simp only [if_pos y, if_pos x]
          refine ⟨by omega, fun he => ?_⟩
          have e1 := fixd (q := q') hS (show i + 1 ≤ c by omega) (by omega)
          have e2 := fixd (q := q') hT1 hnt (by omega)
          rw [e1] at e2 ⊢
          refine ⟨fun q2 hq2 _ => ?_, e2⟩
          cases hq2
          rw [hq']
          exact ⟨fun _ => arr e1, fun _ => arr e2⟩
        · simp only [if_pos y, if_neg x]
          refine ⟨l1, fun he => ?_⟩
          have e1 := fixd (q := q') hS (show i + 1 ≤ c by omega) he
          refine ⟨fun q2 hq2 _ => ?_, e1⟩
          cases hq2
          rw [hq']
          exact ⟨fun _ => arr e1, fun hx => absurd hx x⟩
      · by_cases x : goK k = true ∧ (k = 10 → (q (nN a)).isSome = true → q (nN a) = some 0)
        · obtain ⟨t, ht, et⟩ := w.2.2.2.2.1 x.1
          have hnt : nN d ≤ c := by rw [et, nN, nI_clamp (by omega)]; exact ht
          simp only [if_neg y, if_pos x]
          refine ⟨cm_le hS (by omega), fun he => ?_⟩
          have e2 := fixd (q := q') hS hnt he
          refine ⟨fun q2 hq2 _ => ?_, e2⟩
          cases hq2
          rw [hq']
          exact ⟨fun hy => absurd hy y, fun _ => arr e2⟩
        · simp only [if_neg y, if_neg x]
          refine ⟨Nat.le_refl _, fun _ => ⟨fun q2 hq2 _ => ?_, trivial⟩⟩
          cases hq2
          exact ⟨fun hy => absurd hy y, fun hx => absurd hx x⟩
theorem rn_mu (hc : c ≤ 24) (w : WP c kp D A B) : ∀ (m j : Nat) {S : FS}, m + j ≤ c → TS S → mu (rn kp D A B m j S) ≤ mu S ∧ (mu (rn kp D A B m j S) = mu S → ∀ i, j ≤ i → i < j + m → Cl1 S i (kp i) (D i) (A i) (B i))
  | 0, j, S, _, _ => ⟨Nat.le_refl _, fun _ i h1 h2 => by omega⟩
  | m + 1, j, S, hm, hS => by
    have h1 := flw_mu (show j < c by omega) hc (w j (by omega)) hS
    have h2 := rn_mu hc w m (j + 1) (S := flw S j (kp j) (D j) (A j) (B j)) (by omega) (flw_T (w j (by omega)) hS)
    show mu (rn kp D A B m (j + 1) (flw S j (kp j) (D j) (A j) (B j))) ≤ mu S ∧ (mu (rn kp D A B m (j + 1) (flw S j (kp j) (D j) (A j) (B j))) = mu S → _)
    refine ⟨by omega, fun he i hi1 hi2 => ?_⟩
    have e1 := h1.2 (by omega)
    by_cases z : i = j
    · rw [z]; exact e1.1
    · have e2 := h2.2 (by omega) i (by omega) (by omega)
      rw [e1.2] at e2
      exact e2
/-- the states that FOLD ends with are closed, and do not reach the end -/
theorem fold_closed {S : FS} {p : Nat} (hc : c ≤ 24) (w : WP c kp D A B) (hA : Ann c kp D A B) (hS : S = itn (rnd kp D A B c) p S00) (hfix : ∀ j, j < c + 1 → rnd kp D A B c S j = S j) : S c = none ∧ (∀ i, i < c → Cl1 S i (kp i) (D i) (A i) (B i)) := by
  obtain ⟨S1, ⟨p0, s1, s2⟩, s3, s4⟩ := hA
  have hle : LeS S S1 := by
    rw [hS]
    refine itn_le s4 p (fun i q hq => ?_)
    unfold S00 cm at hq
    by_cases z : i = 0
    · rw [if_pos z] at hq
      cases hq
      rw [z]
      exact ⟨p0, s1, s2⟩
    · rw [if_neg z] at hq; cases hq
  have hT : TS S := by rw [hS]; exact itn_TS w p S00_T
  have hall : rnd kp D A B c S = S := by
    funext j
    by_cases z : j < c + 1
    · exact hfix j z
    · exact rn_hi hc w (by omega) c 0 (by omega)
  refine ⟨?_, fun i hi => (rn_mu hc w c 0 (S := S) (by omega) hT).2 (by rw [show rn kp D A B c 0 S = S from hall]) i (by omega) (by omega)⟩
  cases e : S c with
  | none => rfl
  | some q =>
    obtain ⟨p', p1, _⟩ := hle c q e
    rw [s3] at p1
    cases p1
end AN
