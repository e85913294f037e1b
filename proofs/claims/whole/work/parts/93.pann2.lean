/-! FOLD keeps what is sure of a program. -/
section AF
variable {c : Nat} {kp : Nat → Nat} {D A B : Nat → Int32}
theorem fo_cases (S : FS) (i k : Nat) (d a b : Int32) : (S i = none ∧ foK S i k d a b = 0 ∧ foD S i k d a b = 0 ∧ foA S i k d a b = 0 ∧ foB S i k d a b = 0) ∨
    (∃ q v, S i = some q ∧ wrK k = true ∧ gv q k a b = some v ∧ foK S i k d a b = 1 ∧ foD S i k d a b = d ∧ foA S i k d a b = v ∧ foB S i k d a b = 0) ∨
    (∃ q, S i = some q ∧ k = 10 ∧ q (nN a) = some 0 ∧ foK S i k d a b = 9 ∧ foD S i k d a b = d ∧ foA S i k d a b = 0 ∧ foB S i k d a b = 0) ∨
    (∃ q v, S i = some q ∧ k = 10 ∧ q (nN a) = some v ∧ ¬ v = 0 ∧ foK S i k d a b = 0 ∧ foD S i k d a b = 0 ∧ foA S i k d a b = 0 ∧ foB S i k d a b = 0) ∨
    (∃ q, S i = some q ∧ ¬ (wrK k = true ∧ (gv q k a b).isSome = true) ∧ (k = 10 → q (nN a) = none) ∧ foK S i k d a b = k ∧ foD S i k d a b = d ∧ foA S i k d a b = a ∧ foB S i k d a b = b) := by
  unfold foK foD foA foB
  cases e : S i with
  | none => exact Or.inl ⟨rfl, rfl, rfl, rfl, rfl⟩
  | some q =>
    refine Or.inr ?_
    dsimp only
    by_cases y : wrK k = true ∧ (gv q k a b).isSome = true
    · cases e2 : gv q k a b with
      | none => rw [e2] at y; cases y.2
      | some v =>
        rw [e2] at y
        exact Or.inl ⟨q, v, rfl, y.1, e2, by rw [if_pos y], by rw [if_pos y], by rw [if_pos y]; rfl, by rw [if_pos y]⟩
    · refine Or.inr ?_
      rw [if_neg y, if_neg y, if_neg y, if_neg y]
      by_cases z : k = 10 ∧ q (nN a) = some 0
      · exact Or.inl ⟨q, rfl, z.1, z.2, by rw [if_pos z], by rw [if_pos z], by rw [if_pos z], by rw [if_pos z]⟩
      · refine Or.inr ?_
        rw [if_neg z, if_neg z, if_neg z, if_neg z]
        by_cases x : k = 10 ∧ (q (nN a)).isSome = true
        · cases e2 : q (nN a) with
          | none => rw [e2] at x; cases x.2
          | some v =>
            rw [e2] at x z
            exact Or.inl ⟨q, v, rfl, x.1, e2, fun t => z ⟨x.1, by rw [t]⟩, by rw [if_pos x], by rw [if_pos x], by rw [if_pos x], by rw [if_pos x]⟩
        · refine Or.inr ⟨q, rfl, y, fun k10 => ?_, by rw [if_neg x], by rw [if_neg x], by rw [if_neg x], by rw [if_neg x]⟩
          cases e2 : q (nN a) with
          | none => rfl
          | some v => exact absurd ⟨k10, by rw [e2]; rfl⟩ x
theorem fold_WI {S : FS} {i k : Nat} {d a b : Int32} (w : WI c k d a b) : WI c (foK S i k d a b) (foD S i k d a b) (foA S i k d a b) (foB S i k d a b) := by
  rcases fo_cases S i k d a b with ⟨_, h1, h2, h3, h4⟩ | ⟨q, v, _, hw, _, h1, h2, h3, h4⟩ | ⟨q, _, k10, _, h1, h2, h3, h4⟩ | ⟨q, v, _, _, _, _, h1, h2, h3, h4⟩ | ⟨q, _, _, _, h1, h2, h3, h4⟩
  · rw [h1, h2, h3, h4]; exact WI_0 c
  · rw [h1, h2, h3, h4]
    exact ⟨by omega, fun _ => w.2.1 hw, (fun h => absurd h (by decide)), (fun h => absurd h (by decide)), (fun h => absurd h (by decide)), (fun h => absurd h (by decide)), (fun h => absurd h (by decide)), fun _ => rfl⟩
  · rw [h1, h2, h3, h4]
    exact ⟨by omega, (fun h => absurd h (by decide)), (fun h => absurd h (by decide)), (fun h => absurd h (by decide)), fun _ => w.2.2.2.2.1 (by rw [k10]; decide), (fun h => absurd h (by decide)), fun _ => rfl, fun _ => rfl⟩
  · rw [h1, h2, h3, h4]; exact WI_0 c
  · rw [h1, h2, h3, h4]; exact w
theorem pst_nw {q : RQ} {k : Nat} {d a b : Int32} (h : wrK k = false) : pst q k d a b = q := by unfold pst; rw [if_neg (by rw [h]; decide)]
theorem wr_fa : ∀ k, k < 15 → wrK k = true → faK k = true ∧ goK k = false ∧ ¬ k = 10 := by decide
theorem fold_cl {S : FS} {i k : Nat} {d a b : Int32} (w : WI c k d a b) (h : Cl1 S i k d a b) : Cl1 S i (foK S i k d a b) (foD S i k d a b) (foA S i k d a b) (foB S i k d a b) := by
  have hk : k < 15 := by have := w.1; omega
  intro q hq hn
  rcases fo_cases S i k d a b with ⟨h0, _⟩ | ⟨q', v, hq', hw, hg, h1, h2, h3, h4⟩ | ⟨q', hq', k10, hz, h1, h2, h3, h4⟩ | ⟨q', v, hq', k10, hz, hv, h1, h2, h3, h4⟩ | ⟨q', hq', _, _, h1, h2, h3, h4⟩
  · rw [hq] at h0; cases h0
  · rw [hq] at hq'
    cases hq'
    rw [h1, h4] at hn
    rw [h1, h2, h3, h4]
    obtain ⟨f1, f2, f3⟩ := wr_fa k hk hw
    have hns : ¬ (k = 6 ∧ q (nN b) = some 0) := fun t => by
      unfold gv at hg
      rw [if_neg (by omega), if_neg (by omega), if_pos (by rw [t.1]; decide), t.2] at hg
      cases e : q (nN a) with
      | none => rw [e] at hg; cases hg
      | some x =>
        rw [e] at hg
        simp only [Option.bind_some] at hg
        have hh : k = 6 ∧ True := ⟨t.1, trivial⟩
        rw [if_pos hh] at hg
        cases hg
    obtain ⟨p, p1, p2⟩ := (h q hq hns).1 ⟨f1, fun t => f3 t.1⟩
    have he : pst q 1 d v 0 = pst q k d a b := by
      unfold pst
      rw [if_pos hw, if_pos (by decide), hg]
      rfl
    rw [he]
    exact ⟨fun _ => ⟨p, p1, p2⟩, fun hx => absurd hx.1 (by decide)⟩
  · rw [hq] at hq'
    cases hq'
    rw [h1, h4] at hn
    rw [h1, h2, h3, h4]
    have := (h q hq (fun t => by omega)).2 ⟨by rw [k10]; decide, fun _ _ => hz⟩
    rw [pst_nw (by rw [k10]; decide)] at this
    rw [pst_nw (by decide)]
    exact ⟨fun hx => absurd hx.1 (by decide), fun _ => this⟩
  · rw [hq] at hq'
    cases hq'
    rw [h1, h4] at hn
    rw [h1, h2, h3, h4]
    have := (h q hq (fun t => by omega)).1 ⟨by rw [k10]; decide, fun t => hv (Option.some.inj (hz.symm.trans t.2))⟩
    rw [pst_nw (by rw [k10]; decide)] at this
    rw [pst_nw (by decide)]
    exact ⟨fun _ => this, fun hx => absurd hx.1 (by decide)⟩
  · rw [h1, h4] at hn
    rw [h1, h2, h3, h4]
    exact h q hq hn
theorem jn_wk1 (p q : RQ) : wk (jn p q) p := fun r v h => (jn_some h).1
theorem fcm_keep {T : FS} {t i : Nat} {q x : RQ} (h : T i = some x) : ∃ p, cm T t q i = some p ∧ wk p x := by
  unfold cm
  by_cases z : i = t
  · rw [if_pos z, ← z, h]; exact ⟨_, rfl, jn_wk1 _ _⟩
  · rw [if_neg z]; exact ⟨x, h, wk_rfl x⟩
theorem flw_keep {T : FS} {i j k : Nat} {d a b : Int32} {x : RQ} (h : T j = some x) : ∃ p, flw T i k d a b j = some p ∧ wk p x := by
  cases e : T i with
  | none =>
    have ef : flw T i k d a b = T := by unfold flw; rw [e]
    rw [ef]
    exact ⟨x, h, wk_rfl x⟩
  | some q =>
    rw [flw_eq e]
    by_cases z : k = 6 ∧ q (nN b) = some 0
    · rw [if_pos z]; exact ⟨x, h, wk_rfl x⟩
    · rw [if_neg z]
      unfold flw2
      generalize pst q k d a b = q'
      have h1 : ∃ p, (if faK k = true ∧ ¬ (k = 10 ∧ q (nN a) = some 0) then cm T (i + 1) q' else T) j = some p ∧ wk p x := by
        by_cases y : faK k = true ∧ ¬ (k = 10 ∧ q (nN a) = some 0)
        · rw [if_pos y]; exact fcm_keep h
        · rw [if_neg y]; exact ⟨x, h, wk_rfl x⟩
      by_cases y : goK k = true ∧ (k = 10 → (q (nN a)).isSome = true → q (nN a) = some 0)
      · rw [if_pos y]
        obtain ⟨p, p1, p2⟩ := h1
        obtain ⟨p', p3, p4⟩ := fcm_keep (t := nN d) (q := q') p1
        exact ⟨p', p3, wk_tr p4 p2⟩
      · rw [if_neg y]; exact h1
theorem rn_keep : ∀ (m j : Nat) {T : FS} {i : Nat} {x : RQ}, T i = some x → ∃ p, rn kp D A B m j T i = some p ∧ wk p x
  | 0, _, _, _, x, h => ⟨x, h, wk_rfl x⟩
  | m + 1, j, T, i, x, h => by
    obtain ⟨p, p1, p2⟩ := flw_keep (i := j) (k := kp j) (d := D j) (a := A j) (b := B j) h
    obtain ⟨p', p3, p4⟩ := rn_keep m (j + 1) p1
    exact ⟨p', p3, wk_tr p4 p2⟩
theorem itn_keep : ∀ (n : Nat) {T : FS} {i : Nat} {x : RQ}, T i = some x → ∃ p, itn (rnd kp D A B c) n T i = some p ∧ wk p x
  | 0, _, _, x, h => ⟨x, h, wk_rfl x⟩
  | n + 1, T, i, x, h => by
    obtain ⟨p, p1, p2⟩ := rn_keep (kp := kp) (D := D) (A := A) (B := B) c 0 h
    obtain ⟨p', p3, p4⟩ := itn_keep n p1
    exact ⟨p', p3, wk_tr p4 p2⟩
theorem max_true (f : Nat → Bool) : ∀ (m i : Nat), i < m → f i = true → ∃ l, l < m ∧ f l = true ∧ ∀ j, l < j → j < m → f j = false
  | 0, i, h, _ => absurd h (Nat.not_lt_zero _)
  | m + 1, i, h, hi => by
    cases e : f m with
    | true => exact ⟨m, by omega, e, fun j h1 h2 => by omega⟩
    | false =>
      have : i ≠ m := fun z => by rw [z, e] at hi; cases hi
      obtain ⟨l, l1, l2, l3⟩ := max_true f m i (by omega) hi
      refine ⟨l, by omega, l2, fun j h1 h2 => ?_⟩
      by_cases z : j = m
      · rw [z]; exact e
      · exact l3 j h1 (by omega)
theorem fold_keeps {S : FS} {p : Nat} (hc : c ≤ 24) (h0 : 0 < c) (w : WP c kp D A B) (hA : Ann c kp D A B) (hS : S = itn (rnd kp D A B c) p S00) (hfix : ∀ j, j < c + 1 → rnd kp D A B c S j = S j) :
    WP c (fK' S kp D A B) (fD' S kp D A B) (fA' S kp D A B) (fB' S kp D A B) ∧ Ann c (fK' S kp D A B) (fD' S kp D A B) (fA' S kp D A B) (fB' S kp D A B) ∧ En c (fK' S kp D A B) (fD' S kp D A B) := by
  obtain ⟨s1, s2⟩ := fold_closed hc w hA hS hfix
  have wn : WP c (fK' S kp D A B) (fD' S kp D A B) (fA' S kp D A B) (fB' S kp D A B) := fun i hi => fold_WI (w i hi)
  have cl : ∀ i, i < c → Cl1 S i (fK' S kp D A B i) (fD' S kp D A B i) (fA' S kp D A B i) (fB' S kp D A B i) := fun i hi => fold_cl (w i hi) (s2 i hi)
  have hS0 : ∃ p, S 0 = some p ∧ wk p q0 := by
    rw [hS]
    exact itn_keep p (by unfold S00 cm; rw [if_pos rfl])
  refine ⟨wn, ⟨S, hS0, s1, cl⟩, ?_⟩
  obtain ⟨p0, p1, p2⟩ := hS0
  obtain ⟨l, l1, l2, l3⟩ := max_true (fun i => (S i).isSome) c 0 h0 (by show (S 0).isSome = true; rw [p1]; rfl)
  have none_hi : ∀ j, l < j → j ≤ c → S j = none := fun j h1 h2 => by
    by_cases z : j = c
    · rw [z]; exact s1
    · have := l3 j h1 (by omega)
      have this : (S j).isSome = false := this
      cases e : S j with
      | none => rfl
      | some q => rw [e] at this; cases this
  have l2 : (S l).isSome = true := l2
  have hk15 : fK' S kp D A B l < 15 := by have := (wn l l1).1; omega
  have tail : ∀ i, l < i → i < c → fK' S kp D A B i = 0 := fun i h1 h2 => by
    show foK S i (kp i) (D i) (A i) (B i) = 0
    unfold foK
    rw [none_hi i h1 (by omega)]
  have key : ∀ i q, i < c → S i = some q → ¬ (fK' S kp D A B i = 6 ∧ q (nN (fB' S kp D A B i)) = some 0) → goK (fK' S kp D A B i) = true → nN (fD' S kp D A B i) ≤ l := fun i q hi hq hn hg => by
    have hd : ∃ t, t ≤ c ∧ fD' S kp D A B i = nI t := (wn i hi).2.2.2.2.1 hg
    obtain ⟨t, t1, t2⟩ := hd
    have hnt : nN (fD' S kp D A B i) = t := by rw [t2]; exact nI_clamp (by omega)
    obtain ⟨p', p3, _⟩ := (cl i hi q hq hn).2 ⟨hg, fun k10 hs => by
      rcases fo_cases S i (kp i) (D i) (A i) (B i) with ⟨_, h1, _⟩ | ⟨_, _, _, _, _, h1, _⟩ | ⟨_, _, _, _, h1, _⟩ | ⟨_, _, _, _, _, _, h1, _⟩ | ⟨q', hq', _, hz, h1, h2, h3, h4⟩
      · have k10 : foK S i (kp i) (D i) (A i) (B i) = 10 := k10
        omega
      · have k10 : foK S i (kp i) (D i) (A i) (B i) = 10 := k10
        omega
      · have k10 : foK S i (kp i) (D i) (A i) (B i) = 10 := k10
        omega
      · have k10 : foK S i (kp i) (D i) (A i) (B i) = 10 := k10
        omega
      · have k10 : foK S i (kp i) (D i) (A i) (B i) = 10 := k10
        rw [hq] at hq'
        cases hq'
        have hs : (q (nN (foA S i (kp i) (D i) (A i) (B i)))).isSome = true := hs
        rw [h3, hz (by omega)] at hs
        cases hs⟩
    by_cases z : nN (fD' S kp D A B i) ≤ l
    · exact z
    · rw [none_hi _ (by omega) (by omega)] at p3
      cases p3
  refine ⟨l, l1, ?_, ?_, tail, fun i hi hg => ?_⟩
  · -- the last one that is reached is no NOTHING
    intro hz
    cases e : S l with
    | none => rw [e] at l2; cases l2
    | some q =>
      obtain ⟨p', p3, _⟩ := (cl l l1 q e (fun t => by omega)).1 ⟨by rw [hz]; decide, fun t => by omega⟩
      rw [none_hi (l + 1) (by omega) (by omega)] at p3
      cases p3
  · cases eo : onK (fK' S kp D A B l) with
    | false => rfl
    | true =>
      cases e : S l with
      | none => rw [e] at l2; cases l2
      | some q =>
        have hw := on_wr _ hk15 eo
        have h6 : ¬ fK' S kp D A B l = 6 := fun t => by rw [t] at eo; revert eo; decide
        obtain ⟨f1, f2, f3⟩ := wr_fa _ hk15 hw
        obtain ⟨p', p3, _⟩ := (cl l l1 q e (fun t => h6 t.1)).1 ⟨f1, fun t => f3 t.1⟩
        rw [none_hi (l + 1) (by omega) (by omega)] at p3
        cases p3
  · cases e : S i with
    | none =>
      have hg : goK (foK S i (kp i) (D i) (A i) (B i)) = true := hg
      unfold foK at hg
      rw [e] at hg
      have hg : goK 0 = true := hg
      exact absurd hg (by decide)
    | some q =>
      refine key i q hi e (fun t => ?_) hg
      rw [t.1] at hg
      exact absurd hg (by decide)
end AF
