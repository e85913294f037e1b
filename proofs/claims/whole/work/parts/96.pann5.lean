section ASK
variable {c : Nat} {kp : Nat → Nat} {D A B : Nat → Int32}
theorem sh_cases {s : HV} {k : Nat} {d a b : Int32} (w : WI c k d a b) (ok : HOK s) : (had s k d a b = true ∧ wrK k = true ∧ onK k = true ∧ s.1 (nN d) = sg s k a b ∧ shK s k d a b = 0 ∧ shD s k d a b = 0 ∧ shA s k d a b = 0 ∧ shB s k d a b = 0) ∨
    (∃ r, r < 8 ∧ wrK k = true ∧ onK k = true ∧ s.1 r = sg s k a b ∧ shK s k d a b = 2 ∧ shD s k d a b = d ∧ shA s k d a b = nI r ∧ shB s k d a b = 0) ∨
    (shK s k d a b = k ∧ shD s k d a b = d ∧ shA s k d a b = shA1 s.1 k a ∧ shB s k d a b = shB1 s.1 k b) := by
  unfold shK shD shA shB
  cases eh : had s k d a b with
  | true =>
    have h := eh
    unfold had at h
    simp only [Bool.and_eq_true, beq_iff_eq] at h
    exact Or.inl ⟨rfl, h.1.1, h.1.2, h.2, rfl, rfl, rfl, rfl⟩
  | false =>
    refine Or.inr ?_
    have F : ¬ false = true := by decide
    rw [if_neg F, if_neg F, if_neg F, if_neg F]
    by_cases z : wrK k = true ∧ (hdr s k (sg s k a b)).isSome = true
    · cases e : hdr s k (sg s k a b) with
      | none => rw [e] at z; cases z.2
      | some r =>
        have h := e
        unfold hdr at h
        by_cases y : onK k = true
        · rw [if_pos y] at h
          have hl := lwG_some 8 0 h
          rw [e] at z
          exact Or.inl ⟨r, by omega, z.1, y, hl.1, by rw [if_pos z], rfl, by rw [if_pos z]; rfl, by rw [if_pos z]⟩
        · rw [if_neg y] at h; cases h
    · exact Or.inr ⟨by rw [if_neg z], rfl, by rw [if_neg z], by rw [if_neg z]⟩
theorem share_WI {s : HV} {k : Nat} {d a b : Int32} (w : WI c k d a b) (ok : HOK s) : WI c (shK s k d a b) (shD s k d a b) (shA s k d a b) (shB s k d a b) := by
  rcases sh_cases w ok with ⟨_, _, _, _, h1, h2, h3, h4⟩ | ⟨r, r1, hw, _, _, h1, h2, h3, h4⟩ | ⟨h1, h2, h3, h4⟩
  · rw [h1, h2, h3, h4]; exact WI_0 c
  · rw [h1, h2, h3, h4]
    exact ⟨by omega, fun _ => w.2.1 hw, fun _ => ⟨r, r1, rfl⟩, (fun h => absurd h (by decide)), (fun h => absurd h (by decide)), (fun h => absurd h (by decide)), (fun h => absurd h (by decide)), fun _ => rfl⟩
  · rw [h1, h2, h3, h4]
    refine ⟨w.1, w.2.1, fun h => ?_, fun h => ?_, w.2.2.2.2.1, w.2.2.2.2.2.1, fun h => ?_, fun h => ?_⟩
    · obtain ⟨x, x1, x2, _⟩ := shA1_reg (hv := s.1) h (w.2.2.1 h)
      exact ⟨x, x1, x2⟩
    · obtain ⟨x, x1, x2, _⟩ := shB1_reg (hv := s.1) h (w.2.2.2.1 h)
      exact ⟨x, x1, x2⟩
    · rw [Bool.or_eq_false_iff] at h
      unfold shA1
      rw [if_neg (by rw [h.1]; decide)]
      exact w.2.2.2.2.2.2.1 (by rw [h.1, h.2]; rfl)
    · unfold shB1
      rw [if_neg (by rw [h]; decide)]
      exact w.2.2.2.2.2.2.2 h
/-- one instruction keeps closedness, where the numbers follow the values -/
theorem share_cl {S : FS} {s : HV} {i k : Nat} {d a b : Int32} (w : WI c k d a b) (ok : HOK s) (hnv : s.2.1 < 1000) (hcons : ∀ q, S i = some q → ∃ N, Cons s q N) (h : Cl1 S i k d a b) : Cl1 S i (shK s k d a b) (shD s k d a b) (shA s k d a b) (shB s k d a b) := by
  have hk : k < 15 := by have := w.1; omega
  intro q hq hn
  obtain ⟨N, hN⟩ := hcons q hq
  obtain ⟨N', _, c2, c3⟩ := cons_step (c := c) (d := d) w ok hnv hN
  rcases sh_cases w ok with ⟨_, hw, ho, hd, h1, h2, h3, h4⟩ | ⟨r, r1, hw, ho, hr, h1, h2, h3, h4⟩ | ⟨h1, h2, h3, h4⟩
  · -- NOTHING: d has the value already
    rw [h1, h2, h3, h4]
    obtain ⟨rd, d1, d2⟩ := w.2.1 hw
    have hdn : nN d = rd := by rw [d2, nN_nI d1]
    have hlt : sg s k a b < s.2.1 := by rw [← hd, hdn]; exact ok.1 rd d1
    obtain ⟨f1, f2, f3⟩ := wr_fa k hk hw
    have n6 : ¬ k = 6 := fun t => by rw [t] at ho; revert ho; decide
    obtain ⟨p, p1, p2⟩ := (h q hq (fun t => n6 t.1)).1 ⟨f1, fun t => f3 t.1⟩
    have he : pst q k d a b = q := by
      funext r
      unfold pst
      rw [if_pos hw]
      show (if r = nN d then gv q k a b else q r) = q r
      by_cases z : r = nN d
      · rw [if_pos z, z, ← c2 hw hlt, ← hd, hdn]
        exact (hN.1 rd d1).symm
      · rw [if_neg z]
    rw [he] at p2
    rw [pst_nw (by decide)]
    exact ⟨fun _ => ⟨p, p1, p2⟩, fun hx => absurd hx.1 (by decide)⟩
  · -- MOVE from the lowest that has the value
    rw [h1, h2, h3, h4]
    have hlt : sg s k a b < s.2.1 := by rw [← hr]; exact ok.1 r r1
    obtain ⟨f1, f2, f3⟩ := wr_fa k hk hw
    have n6 : ¬ k = 6 := fun t => by rw [t] at ho; revert ho; decide
    obtain ⟨p, p1, p2⟩ := (h q hq (fun t => n6 t.1)).1 ⟨f1, fun t => f3 t.1⟩
    have he : pst q 2 d (nI r) 0 = pst q k d a b := by
      unfold pst
      rw [if_pos hw, if_pos (by decide)]
      have : gv q 2 (nI r) 0 = gv q k a b := by
        rw [← c2 hw hlt, ← hr, ← hN.1 r r1]
        unfold gv
        rw [if_neg (by decide), if_pos rfl, nN_nI r1]
      rw [this]
    rw [he]
    exact ⟨fun _ => ⟨p, p1, p2⟩, fun hx => absurd hx.1 (by decide)⟩
  · rw [h1, h4] at hn
    rw [h1, h2, h3, h4]
    have ra : raK k = true → q (nN (shA1 s.1 k a)) = q (nN a) := fun hh => by
      obtain ⟨x, x1, x2, x3⟩ := shA1_reg (hv := s.1) hh (w.2.2.1 hh)
      obtain ⟨y, y1, y2⟩ := w.2.2.1 hh
      rw [x2, nN_nI x1, hN.1 x x1, x3, y2, nN_nI y1, hN.1 y y1]
    have rb : rbK k = true → q (nN (shB1 s.1 k b)) = q (nN b) := fun hh => by
      obtain ⟨x, x1, x2, x3⟩ := shB1_reg (hv := s.1) hh (w.2.2.2.1 hh)
      obtain ⟨y, y1, y2⟩ := w.2.2.2.1 hh
      rw [x2, nN_nI x1, hN.1 x x1, x3, y2, nN_nI y1, hN.1 y y1]
    have he : pst q k d (shA1 s.1 k a) (shB1 s.1 k b) = pst q k d a b := by
      have : gv q k (shA1 s.1 k a) (shB1 s.1 k b) = gv q k a b := by
        unfold gv
        by_cases k1 : k = 1
        · have ea : shA1 s.1 k a = a := by unfold shA1; rw [if_neg (by rw [k1]; decide)]
          rw [if_pos k1, if_pos k1, ea]
        rw [if_neg k1, if_neg k1]
        by_cases k2 : k = 2
        · rw [if_pos k2, if_pos k2]; exact ra (by rw [k2]; decide)
        rw [if_neg k2, if_neg k2]
        by_cases ka : arK k = true
        · have := ar_of k hk ka
          rw [if_pos ka, if_pos ka, ra this.1, rb this.2.1]
        · rw [if_neg ka, if_neg ka]
      unfold pst
      rw [this]
    rw [he]
    have hcl := h q hq (fun t => hn ⟨t.1, by rw [rb (by rw [t.1]; decide)]; exact t.2⟩)
    refine ⟨fun hf => hcl.1 ⟨hf.1, fun t => hf.2 ⟨t.1, by rw [ra (by rw [t.1]; decide)]; exact t.2⟩⟩, fun hf => hcl.2 ⟨hf.1, fun k10 hs => ?_⟩⟩
    have := ra (by rw [k10]; decide)
    rw [← this]
    exact hf.2 k10 (by rw [this]; exact hs)
/-- inside a block what is known is just what flows -/
def tSt (kp : Nat → Nat) (D A B : Nat → Int32) (c : Nat) (S : FS) : Nat → Option RQ
  | 0 => S 0
  | i + 1 => if i + 1 < c ∧ bgF kp D c (i + 1) = false then
      (match tSt kp D A B c S i with
        | none => none
        | some q => if kp i = 6 ∧ q (nN (B i)) = some 0 then none else some (pst q (kp i) (D i) (A i) (B i)))
    else S (i + 1)
theorem bg_no {i : Nat} (h : bgF kp D c (i + 1) = false) : goK (kp i) = false ∧ ¬ kp i = 12 ∧ ∀ j, j < c → goK (kp j) = true → ¬ D j = nI (i + 1) := by
  unfold bgF at h
  rw [Bool.or_eq_false_iff, Bool.or_eq_false_iff, Bool.or_eq_false_iff] at h
  obtain ⟨⟨_, h2, h3⟩, h4⟩ := h
  rw [show i + 1 - 1 = i by omega] at h2 h3
  refine ⟨h2, by simpa using h3, ?_⟩
  have key : ∀ (m j : Nat), tgF kp D (i + 1) m j = false → ∀ x, j ≤ x → x < j + m → goK (kp x) = true → ¬ D x = nI (i + 1) := fun m => by
    induction m with
    | zero => intro j _ x h1 h2; omega
    | succ m ih =>
      intro j ht x h1 h2 hg hd
      have ht : ((goK (kp j) && decide (D j = nI (i + 1))) || tgF kp D (i + 1) m (j + 1)) = false := ht
      rw [Bool.or_eq_false_iff] at ht
      by_cases z : x = j
      · rw [z] at hg hd
        rw [hg, decide_eq_true hd] at ht
        cases ht.1
      · exact ih (j + 1) ht.2 x (by omega) (by omega) hg hd
  exact fun j hj => key c 0 h4 j (Nat.zero_le _) (by omega)
theorem tS_le {S : FS} (hS : ∀ i, i < c → Cl1 S i (kp i) (D i) (A i) (B i)) (w : WP c kp D A B) : ∀ i q, i ≤ c → tSt kp D A B c S i = some q → ∃ p, S i = some p ∧ wk p q
  | 0, q, _, h => ⟨q, h, wk_rfl q⟩
  | i + 1, q, hi, h => by
    unfold tSt at h
    by_cases z : i + 1 < c ∧ bgF kp D c (i + 1) = false
    · rw [if_pos z] at h
      cases e : tSt kp D A B c S i with
      | none => rw [e] at h; cases h
      | some x =>
        rw [e] at h
        have h : (if kp i = 6 ∧ x (nN (B i)) = some 0 then none else some (pst x (kp i) (D i) (A i) (B i))) = some q := h
        by_cases y : kp i = 6 ∧ x (nN (B i)) = some 0
        · rw [if_pos y] at h; cases h
        · rw [if_neg y] at h
          cases h
          obtain ⟨p, p1, p2⟩ := tS_le hS w i x (by omega) e
          obtain ⟨b1, b2, _⟩ := bg_no z.2
          have hfa : faK (kp i) = true := by
            unfold faK
            have n9 : ¬ kp i = 9 := fun t => by rw [t] at b1; revert b1; decide
            simp [n9, b2]
          have n10 : ¬ kp i = 10 := fun t => by rw [t] at b1; revert b1; decide
          obtain ⟨p', p3, p4⟩ := (hS i (by omega) p p1 (fun t => y ⟨t.1, p2 _ _ t.2⟩)).1 ⟨hfa, fun t => n10 t.1⟩
          exact ⟨p', p3, wk_tr p4 (pst_wk p2)⟩
    · rw [if_neg z] at h; exact ⟨q, h, wk_rfl q⟩
theorem tS_cl {S : FS} (hc : c ≤ 24) (hS : ∀ i, i < c → Cl1 S i (kp i) (D i) (A i) (B i)) (w : WP c kp D A B) {i : Nat} (hi : i < c) : Cl1 (tSt kp D A B c S) i (kp i) (D i) (A i) (B i) := by
  intro q hq hn
  obtain ⟨p, p1, p2⟩ := tS_le hS w i q (by omega) hq
  have hcl := hS i hi p p1 (fun t => hn ⟨t.1, p2 _ _ t.2⟩)
  -- at a place where a block begins: as before
  have beg : ∀ t, (t = 0 ∨ ¬ (t < c ∧ bgF kp D c t = false)) → tSt kp D A B c S t = S t := fun t ht => by
    cases t with
    | zero => rfl
    | succ t =>
      rcases ht with h | h
      · cases h
      · unfold tSt; rw [if_neg h]
  constructor
  · intro hf
    by_cases z : i + 1 < c ∧ bgF kp D c (i + 1) = false
    · refine ⟨pst q (kp i) (D i) (A i) (B i), ?_, wk_rfl _⟩
      show tSt kp D A B c S (i + 1) = _
      unfold tSt
      rw [if_pos z, hq]
      exact if_neg hn
    · obtain ⟨x, x1, x2⟩ := hcl.1 ⟨hf.1, fun t => hf.2 ⟨t.1, p2 _ _ t.2⟩⟩
      exact ⟨x, by rw [beg (i + 1) (Or.inr z)]; exact x1, wk_tr x2 (pst_wk p2)⟩
  · intro hf
    obtain ⟨t, t1, t2⟩ := (w i hi).2.2.2.2.1 hf.1
    have hnt : nN (D i) = t := by rw [t2]; exact nI_clamp (by omega)
    obtain ⟨x, x1, x2⟩ := hcl.2 ⟨hf.1, fun k10 hs => by
      cases e2 : p (nN (A i)) with
      | none => rw [e2] at hs; cases hs
      | some u =>
        have := p2 _ _ e2
        have h3 := hf.2 k10 (by rw [this]; rfl)
        rw [this] at h3
        exact h3⟩
    refine ⟨x, ?_, wk_tr x2 (pst_wk p2)⟩
    rw [beg (nN (D i)) ?_]
    · exact x1
    · by_cases z : nN (D i) = 0
      · exact Or.inl z
      · refine Or.inr (fun y => ?_)
        obtain ⟨u, hu⟩ : ∃ u, nN (D i) = u + 1 := ⟨nN (D i) - 1, by omega⟩
        rw [hu] at y
        have := (bg_no y.2).2.2 i hi hf.1
        rw [← hu, hnt] at this
        exact this t2
theorem cons_all {S : FS} (hc : c ≤ 24) (w : WP c kp D A B) : ∀ i, i < c → ∀ q, tSt kp D A B c S i = some q → ∃ N, Cons (shI kp D A B c i) q N
  | i, hi, q, hq => by
    by_cases z : bgF kp D c i = true
    · have e : shI kp D A B c i = s00 := by rw [shI, if_pos z]
      rw [e]
      refine ⟨q, fun r hr => rfl, fun k x y v h => by cases h⟩
    · have e : shI kp D A B c i = shS kp D A B c i := by rw [shI, if_neg z]
      rw [e]
      cases i with
      | zero => exact absurd rfl z
      | succ i =>
        have hz := eq_false_of_ne_true z
        unfold tSt at hq
        rw [if_pos ⟨hi, hz⟩] at hq
        cases e2 : tSt kp D A B c S i with
        | none => rw [e2] at hq; cases hq
        | some x =>
          rw [e2] at hq
          have hq : (if kp i = 6 ∧ x (nN (B i)) = some 0 then none else some (pst x (kp i) (D i) (A i) (B i))) = some q := hq
          by_cases y : kp i = 6 ∧ x (nN (B i)) = some 0
          · rw [if_pos y] at hq; cases hq
          · rw [if_neg y] at hq
            cases hq
            obtain ⟨N, hN⟩ := cons_all hc w i (by omega) x e2
            have okI : HOK (shI kp D A B c i) ∧ (shI kp D A B c i).2.1 < 1000 := by
              have := shS_ok w i (by omega)
              by_cases z2 : bgF kp D c i = true
              · rw [shI, if_pos z2]; exact ⟨s00_ok, by show 8 < 1000; omega⟩
              · rw [shI, if_neg z2]; exact ⟨this.1, by omega⟩
            obtain ⟨N', h1, _⟩ := cons_step (c := c) (w i (by omega)) okI.1 okI.2 hN
            exact ⟨N', h1⟩
theorem share_keeps (hc : c ≤ 24) (w : WP c kp D A B) (hA : Ann c kp D A B) (hE : En c kp D) :
    WP c (sK' kp D A B c) (sD' kp D A B c) (sA' kp D A B c) (sB' kp D A B c) ∧ Ann c (sK' kp D A B c) (sD' kp D A B c) (sA' kp D A B c) (sB' kp D A B c) ∧ En c (sK' kp D A B c) (sD' kp D A B c) := by
  have okI : ∀ i, i < c → HOK (shI kp D A B c i) ∧ (shI kp D A B c i).2.1 < 1000 := fun i hi => by
    have := shS_ok w i (by omega)
    by_cases z2 : bgF kp D c i = true
    · rw [shI, if_pos z2]; exact ⟨s00_ok, by show 8 < 1000; omega⟩
    · rw [shI, if_neg z2]; exact ⟨this.1, by omega⟩
  refine ⟨fun i hi => share_WI (w i hi) (okI i hi).1, ?_, ?_⟩
  · obtain ⟨S, s1, s2, s3⟩ := hA
    refine ⟨tSt kp D A B c S, s1, ?_, fun i hi => share_cl (w i hi) (okI i hi).1 (okI i hi).2 (cons_all hc w i hi) (tS_cl hc s3 w hi)⟩
    cases c with
    | zero => exact s2
    | succ c => unfold tSt; rw [if_neg (fun t => by omega)]; exact s2
  · obtain ⟨l, l1, l2, l3, l4, l5⟩ := hE
    have no : ∀ i, i < c → onK (kp i) = false → sK' kp D A B c i = kp i := fun i hi ho => by
      rcases sh_cases (s := shI kp D A B c i) (w i hi) (okI i hi).1 with ⟨_, _, h, _⟩ | ⟨_, _, _, h, _⟩ | ⟨h, _⟩
      · rw [ho] at h; cases h
      · rw [ho] at h; cases h
      · exact h
    refine ⟨l, l1, by rw [no l l1 l3]; exact l2, by rw [no l l1 l3]; exact l3, fun i h1 h2 => ?_, fun i hi hg => ?_⟩
    · rw [no i h2 (by rw [l4 i h1 h2]; decide)]; exact l4 i h1 h2
    · have := shK_go (s := shI kp D A B c i) (w i hi)
      have hg : goK (shK (shI kp D A B c i) (kp i) (D i) (A i) (B i)) = true := hg
      rw [this.1] at hg
      show nN (shD (shI kp D A B c i) (kp i) (D i) (A i) (B i)) ≤ l
      rw [this.2.1 hg]
      exact l5 i hi hg
end ASK
