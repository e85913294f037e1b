/-! ALLOCATE: no run leaves an allocated program. -/
section AA
variable {c : Nat} {kp : Nat → Nat} {D A B : Nat → Int32} {p : Nat → Nat → Bool} {hm : Nat → Nat} {K K' s : Nat}
/-- what a register's home holds -/
def loc (hm : Nat → Nat) (M Sl : Nat → Int32) (r : Nat) : Int32 := if hm r < 8 then M (hm r) else Sl (hm r - 8)
def InvA (hm : Nat → Nat) (p : Nat → Nat → Bool) (i : Nat) (R M Sl : Nat → Int32) : Prop := ∀ r, r < 8 → p i r = true → loc hm M Sl r = R r
/-- what is sure of homes -/
def HG (I : Nat → Nat → Bool) (K K' s : Nat) (hm : Nat → Nat) : Prop := HomeOK I K' 8 hm s ∧ s ≤ 8 ∧ hm 0 = 0 ∧ hm 1 = 1 ∧ ((s = 0 ∧ K' = K) ∨ (4 ≤ K ∧ K' = K - 2)) ∧ 2 ≤ K ∧ K ≤ 8
theorem hg_lt {I : Nat → Nat → Bool} (h : HG I K K' s hm) {r : Nat} (hr : r < 8) : hm r < 16 := by
  have := h.1.1 r hr
  have h2 := h.2.1
  have h3 := h.2.2.2.2.2
  rcases h.2.2.2.2.1 with z | z <;> omega
/-- a slot in use: the helpers are no homes -/
theorem hg_slot {I : Nat → Nat → Bool} (h : HG I K K' s hm) {r : Nat} (hr : r < 8) (hs : 8 ≤ hm r) : 4 ≤ K ∧ ∀ q, q < 8 → hm q < 8 → hm q < K - 2 := by
  have h1 := h.1.1 r hr
  rcases h.2.2.2.2.1 with ⟨z1, z2⟩ | ⟨z1, z2⟩
  · have := h.2.2.2.2.2
    omega
  · refine ⟨z1, fun q hq hq8 => ?_⟩
    have := h.1.1 q hq
    omega
theorem hg_same {I : Nat → Nat → Bool} (h : HG I K K' s hm) {q z : Nat} (hq : q < 8) (hz : z < 8) (hne : q ≠ z) (he : hm q = hm z) : hm q < 8 ∧ ((q < z ∧ I q z = false) ∨ (z < q ∧ I z q = false)) := by
  by_cases y : q < z
  · have := h.1.2 q z y hz he
    exact ⟨this.1, Or.inl ⟨y, this.2⟩⟩
  · have := h.1.2 z q (by omega) hq he.symm
    exact ⟨by rw [he]; exact this.1, Or.inr ⟨by omega, this.2⟩⟩
theorem itf_w {i x y : Nat} (hi : i < c) (hw : wrK (kp i) = true) (hd : D i = nI x) (ho : oB kp D A p i y = true) : itf kp D A p c x y = true ∧ itf kp D A p c y x = true := by
  constructor
  · unfold itf
    rw [Bool.or_eq_true]
    refine Or.inr (anyN_t.mpr ⟨i, hi, ?_⟩)
    rw [hw, ho, decide_eq_true hd]; rfl
  · unfold itf
    rw [Bool.or_eq_true]
    refine Or.inr (anyN_t.mpr ⟨i, hi, ?_⟩)
    rw [hw, ho, decide_eq_true hd]; simp
theorem itf_s {x y : Nat} (hx : stB p x = true) (hy : stB p y = true) : itf kp D A p c x y = true := by
  unfold itf
  rw [hx, hy]; rfl
theorem slX_t {b : Bool} {x : Int32} (h : slX hm b x = true) : b = true ∧ 8 ≤ hm (nN x) := by
  unfold slX at h
  rw [Bool.and_eq_true, decide_eq_true_eq] at h
  exact h
/-- live behind and not written: live before -/
theorem lv_back (w : WP c kp D A B) (hp : LvS kp D A B c p) {i r t : Nat} (hi : i < c) (h8 : r < 8) (ht : p t r = true) (hs : (faK (kp i) = true ∧ t = i + 1) ∨ (goK (kp i) = true ∧ t = nN (D i))) (hw : ¬ (wrK (kp i) = true ∧ r = nN (D i))) : p i r = true ∧ aftB kp D p i r = true := by
  have h1 : wrB (kp i) (D i) r = false := by
    unfold wrB
    cases ew : wrK (kp i) with
    | false => rfl
    | true => rw [decide_eq_false (fun z => hw ⟨ew, by rw [z]; exact (nN_nI h8).symm⟩)]; rfl
  have h2 : aftB kp D p i r = true := by
    unfold aftB
    rcases hs with ⟨a1, a2⟩ | ⟨a1, a2⟩
    · rw [a2] at ht; rw [a1, ht]; rfl
    · rw [a2] at ht; rw [a1, ht]; simp
  refine ⟨?_, h2⟩
  rw [lvS_eq hp hi h8]
  unfold lvF
  rw [h1, h2]; simp
theorem lv_read (w : WP c kp D A B) (hp : LvS kp D A B c p) {i : Nat} (hi : i < c) : (raK (kp i) = true → nN (A i) < 8 ∧ p i (nN (A i)) = true) ∧ (rbK (kp i) = true → nN (B i) < 8 ∧ p i (nN (B i)) = true) := by
  constructor
  · intro h
    obtain ⟨r, r1, r2⟩ := (w i hi).2.2.1 h
    rw [r2, nN_nI r1]
    refine ⟨r1, ?_⟩
    rw [lvS_eq hp hi r1]
    unfold lvF rdB
    rw [h, r2, decide_eq_true rfl]; rfl
  · intro h
    obtain ⟨r, r1, r2⟩ := (w i hi).2.2.2.1 h
    rw [r2, nN_nI r1]
    refine ⟨r1, ?_⟩
    rw [lvS_eq hp hi r1]
    unfold lvF rdB
    rw [h, r2, decide_eq_true rfl]; simp
theorem loc_upd {M Sl : Nat → Int32} {x : Nat} {v : Int32} {r : Nat} (h : hm r < 8 → hm r ≠ x) : loc hm (upd M x v) Sl r = loc hm M Sl r := by
  unfold loc
  by_cases z : hm r < 8
  · rw [if_pos z, if_pos z, upd_n _ (h z)]
  · rw [if_neg z, if_neg z]
theorem alloc_nf {ea eb ed ek : Nat → Int32} {cq : Nat} (hc : c ≤ 24) (w : WP c kp D A B) (hp : LvS kp D A B c p) (hg : HG (itf kp D A p c) K K' s hm) (hJ : ∀ i, i < c → goK (kp i) = true → ∃ t, t < c ∧ D i = nI t) (nf : NF c kp D A B) (hcq : cq = stN kp D A B hm c)
    (hrow : ∀ x, x < cq → ea x = rowA kp D A B hm (K - 2) 0 (fun _ => 0) c x ∧ eb x = rowB kp D A B hm (K - 2) 0 (fun _ => 0) c x ∧ ed x = dFin kp D A B hm (K - 2) c x ∧ ek x = rowK kp D A B hm 0 (fun _ => 0) c x) :
    (∀ x, x < cq → WA (nN (ek x)) (ed x) (ea x) (eb x)) ∧ NF cq (fun x => nN (ek x)) ed ea eb := by
  have hst4 := st_4 (kp := kp) (D := D) (A := A) (B := B) (hm := hm)
  have hKK := hg.2.2.2.2.2
  -- the four places of instruction i
  have stlt : ∀ i, i < c → stN kp D A B hm i + b2n (sA9 kp A hm i) + b2n (sB9 kp B hm i) + b2n (sD9 kp D hm i) < stN kp D A B hm (i + 1) ∧ stN kp D A B hm (i + 1) ≤ cq := fun i hi => by
    rw [hcq, st_s]
    refine ⟨by show _ < _ + (b2n _ + b2n _ + 1 + b2n _); omega, ?_⟩
    have := st_mono (kp := kp) (D := D) (A := A) (B := B) (hm := hm) (show i + 1 ≤ c by omega)
    rw [st_s] at this
    exact this
  have nkk : ∀ k, k < 15 → nN (nI k) = k := fun k hk => nI_clamp (by omega)
  have insA : ∀ i, i < c → sA9 kp A hm i = true → nN (ek (stN kp D A B hm i)) = 13 ∧ ed (stN kp D A B hm i) = nI (K - 2) ∧ ea (stN kp D A B hm i) = nI (hm (nN (A i)) - 8) := fun i hi hs => by
    obtain ⟨r1, r2, r3, r4⟩ := hrow (stN kp D A B hm i) (by have := stlt i hi; omega)
    have z : ∀ {va vb vo vd : Nat → Int32}, emR kp D A B hm 0 va vb vo vd (fun _ => 0) c (stN kp D A B hm i) = va i := fun {va vb vo vd} => by
      have := emR_A (D := D) (B := B) (base := 0) (va := va) (vb := vb) (vo := vo) (vd := vd) (f := fun _ => 0) hi hs
      rw [Nat.zero_add] at this
      exact this
    have hk13 : nN (ek (stN kp D A B hm i)) = 13 := by rw [r4]; unfold rowK; rw [z]; decide
    refine ⟨hk13, ?_, by rw [r1]; unfold rowA; rw [z]⟩
    rw [r3]
    unfold dFin
    rw [← r4, hk13, if_neg (by decide)]
    unfold rowD
    rw [z]
  have insB : ∀ i, i < c → sB9 kp B hm i = true → nN (ek (stN kp D A B hm i + b2n (sA9 kp A hm i))) = 13 ∧ ed (stN kp D A B hm i + b2n (sA9 kp A hm i)) = nI (K - 2 + 1) ∧ ea (stN kp D A B hm i + b2n (sA9 kp A hm i)) = nI (hm (nN (B i)) - 8) := fun i hi hs => by
    obtain ⟨r1, r2, r3, r4⟩ := hrow (stN kp D A B hm i + b2n (sA9 kp A hm i)) (by have := stlt i hi; omega)
    have z : ∀ {va vb vo vd : Nat → Int32}, emR kp D A B hm 0 va vb vo vd (fun _ => 0) c (stN kp D A B hm i + b2n (sA9 kp A hm i)) = vb i := fun {va vb vo vd} => by
      have := emR_B (D := D) (A := A) (base := 0) (va := va) (vb := vb) (vo := vo) (vd := vd) (f := fun _ => 0) hi hs
      rw [Nat.zero_add] at this
      exact this
    have hk13 : nN (ek (stN kp D A B hm i + b2n (sA9 kp A hm i))) = 13 := by rw [r4]; unfold rowK; rw [z]; decide
    refine ⟨hk13, ?_, by rw [r1]; unfold rowA; rw [z]⟩
    rw [r3]
    unfold dFin
    rw [← r4, hk13, if_neg (by decide)]
    unfold rowD
    rw [z]
  have insO : ∀ i, i < c → nN (ek (stN kp D A B hm i + b2n (sA9 kp A hm i) + b2n (sB9 kp B hm i))) = kp i ∧ ed (stN kp D A B hm i + b2n (sA9 kp A hm i) + b2n (sB9 kp B hm i)) = (if goK (kp i) = true then nI (stN kp D A B hm (nN (D i))) else plX hm (wrK (kp i)) (D i) (K - 2)) ∧ ea (stN kp D A B hm i + b2n (sA9 kp A hm i) + b2n (sB9 kp B hm i)) = plX hm (raK (kp i)) (A i) (K - 2) ∧ eb (stN kp D A B hm i + b2n (sA9 kp A hm i) + b2n (sB9 kp B hm i)) = plX hm (rbK (kp i)) (B i) (K - 2 + 1) := fun i hi => by
    obtain ⟨r1, r2, r3, r4⟩ := hrow (stN kp D A B hm i + b2n (sA9 kp A hm i) + b2n (sB9 kp B hm i)) (by have := stlt i hi; omega)
    have hk : kp i < 15 := by have := (w i hi).1; omega
    have z : ∀ {va vb vo vd : Nat → Int32}, emR kp D A B hm 0 va vb vo vd (fun _ => 0) c (stN kp D A B hm i + b2n (sA9 kp A hm i) + b2n (sB9 kp B hm i)) = vo i := fun {va vb vo vd} => by
      have := emR_O (kp := kp) (D := D) (A := A) (B := B) (hm := hm) (base := 0) (va := va) (vb := vb) (vo := vo) (vd := vd) (f := fun _ => 0) hi
      rw [Nat.zero_add] at this
      exact this
    have hkk : nN (ek (stN kp D A B hm i + b2n (sA9 kp A hm i) + b2n (sB9 kp B hm i))) = kp i := by rw [r4]; unfold rowK; rw [z]; exact nkk _ hk
    refine ⟨hkk, ?_, by rw [r1]; unfold rowA; rw [z], by rw [r2]; unfold rowB; rw [z]⟩
    rw [r3]
    unfold dFin
    rw [← r4, hkk]
    unfold rowD
    rw [z]
    by_cases hgo : goK (kp i) = true
    · rw [if_pos hgo, if_pos hgo]
      show nI (stN kp D A B hm (nN (plX hm (wrK (kp i)) (D i) (K - 2)))) = _
      unfold plX
      rw [go_wr _ hk hgo, if_neg (by decide)]
    · rw [if_neg hgo, if_neg hgo]
  have insD : ∀ i, i < c → sD9 kp D hm i = true → nN (ek (stN kp D A B hm i + b2n (sA9 kp A hm i) + b2n (sB9 kp B hm i) + 1)) = 14 ∧ ea (stN kp D A B hm i + b2n (sA9 kp A hm i) + b2n (sB9 kp B hm i) + 1) = nI (K - 2) ∧ eb (stN kp D A B hm i + b2n (sA9 kp A hm i) + b2n (sB9 kp B hm i) + 1) = nI (hm (nN (D i)) - 8) := fun i hi hs => by
    obtain ⟨r1, r2, r3, r4⟩ := hrow (stN kp D A B hm i + b2n (sA9 kp A hm i) + b2n (sB9 kp B hm i) + 1) (by have := stlt i hi; rw [hs, b2n_t] at this; omega)
    have z : ∀ {va vb vo vd : Nat → Int32}, emR kp D A B hm 0 va vb vo vd (fun _ => 0) c (stN kp D A B hm i + b2n (sA9 kp A hm i) + b2n (sB9 kp B hm i) + 1) = vd i := fun {va vb vo vd} => by
      have := emR_D (A := A) (B := B) (base := 0) (va := va) (vb := vb) (vo := vo) (vd := vd) (f := fun _ => 0) hi hs
      rw [Nat.zero_add] at this
      exact this
    exact ⟨by rw [r4]; unfold rowK; rw [z]; decide, by rw [r1]; unfold rowA; rw [z], by rw [r2]; unfold rowB; rw [z]⟩
  -- registers
  have regD : ∀ i, i < c → wrK (kp i) = true → nN (D i) < 8 := fun i hi h => by
    obtain ⟨r, r1, r2⟩ := (w i hi).2.1 h
    rw [r2, nN_nI r1]; exact r1
  have regA := fun i (hi : i < c) (h : raK (kp i) = true) => ((lv_read w hp hi).1 h).1
  have regB := fun i (hi : i < c) (h : rbK (kp i) = true) => ((lv_read w hp hi).2 h).1
  have plXr : ∀ (b : Bool) (x : Int32) (h : Nat), b = true → nN x < 8 → (slX hm b x = true → h < 8) → ∃ r, r < 8 ∧ plX hm b x h = nI r := fun b x h hb hx hh => by
    unfold plX
    rw [if_pos hb]
    by_cases z : 8 ≤ hm (nN x)
    · rw [if_pos z]; exact ⟨h, hh (by unfold slX; rw [hb, decide_eq_true z]; rfl), rfl⟩
    · rw [if_neg z]; exact ⟨_, by omega, rfl⟩
  have hel : ∀ r, r < 8 → 8 ≤ hm r → K - 2 < 8 ∧ K - 2 + 1 < 8 ∧ hm r - 8 < 8 := fun r hr h => by
    have := hg_slot hg hr h
    have h2 := hg_lt hg hr
    omega
  constructor
  · intro x hx
    rw [hcq] at hx
    obtain ⟨i, hi, hcase⟩ := st_cases hx
    rcases hcase with ⟨a, b⟩ | ⟨a, b⟩ | b | ⟨a, b⟩
    · obtain ⟨e1, e2, e3⟩ := insA i hi a
      obtain ⟨a1, a2⟩ := slX_t a
      have := hel _ (regA i hi a1) a2
      rw [b, e1, e2, e3]
      exact ⟨by omega, fun _ => ⟨_, this.1, rfl⟩, fun _ => ⟨_, this.2.2, rfl⟩, (fun h => absurd h (by decide)), (fun h => absurd h (by decide))⟩
    · obtain ⟨e1, e2, e3⟩ := insB i hi a
      obtain ⟨a1, a2⟩ := slX_t a
      have := hel _ (regB i hi a1) a2
      rw [b, e1, e2, e3]
      exact ⟨by omega, fun _ => ⟨_, this.2.1, rfl⟩, fun _ => ⟨_, this.2.2, rfl⟩, (fun h => absurd h (by decide)), (fun h => absurd h (by decide))⟩
    · obtain ⟨e1, e2, e3, e4⟩ := insO i hi
      have wi := w i hi
      have hk : kp i < 15 := by have := wi.1; omega
      have n13 : (kp i == 13) = false := by have := wi.1; simp; omega
      have n14 : (kp i == 14) = false := by have := wi.1; simp; omega
      rw [b, e1, e2, e3, e4]
      refine ⟨by have := wi.1; omega, fun h => ?_, fun h => ?_, fun h => ?_, fun h => ?_⟩
      · rw [n13, Bool.or_false] at h
        have hng : ¬ goK (kp i) = true := fun t => by rw [go_wr _ hk t] at h; cases h
        rw [if_neg hng]
        exact plXr _ _ _ h (regD i hi h) (fun hs => (hel _ (regD i hi h) (slX_t hs).2).1)
      · rw [n13, n14, Bool.or_false, Bool.or_false] at h
        exact plXr _ _ _ h (regA i hi h) (fun hs => (hel _ (regA i hi h) (slX_t hs).2).1)
      · rw [n14, Bool.or_false] at h
        exact plXr _ _ _ h (regB i hi h) (fun hs => (hel _ (regB i hi h) (slX_t hs).2).2.1)
      · rw [if_pos h]
        obtain ⟨t, t1, t2⟩ := hJ i hi h
        have hnt : nN (D i) = t := by rw [t2]; exact nI_clamp (by omega)
        refine ⟨_, ?_, rfl⟩
        have := hst4 (nN (D i))
        omega
    · obtain ⟨e1, e2, e3⟩ := insD i hi a
      obtain ⟨a1, a2⟩ := slX_t a
      have := hel _ (regD i hi a1) a2
      rw [b, e1, e2, e3]
      exact ⟨by omega, (fun h => absurd h (by decide)), fun _ => ⟨_, this.1, rfl⟩, fun _ => ⟨_, this.2.2, rfl⟩, (fun h => absurd h (by decide))⟩
  · obtain ⟨IP, i1, i2, i3⟩ := nf
    refine ⟨fun x M Sl => (∃ i R Z, i < c ∧ IP i R Z ∧ InvA hm p i R M Sl ∧
        ((x = stN kp D A B hm i) ∨
         (x = stN kp D A B hm i + b2n (sA9 kp A hm i) ∧ (sA9 kp A hm i = true → M (K - 2) = R (nN (A i)))) ∨
         (x = stN kp D A B hm i + b2n (sA9 kp A hm i) + b2n (sB9 kp B hm i) ∧ (sA9 kp A hm i = true → M (K - 2) = R (nN (A i))) ∧ (sB9 kp B hm i = true → M (K - 2 + 1) = R (nN (B i)))))) ∨
      (∃ i R Z, i < c ∧ IP (i + 1) R Z ∧ sD9 kp D hm i = true ∧ x = stN kp D A B hm i + b2n (sA9 kp A hm i) + b2n (sB9 kp B hm i) + 1 ∧ M (K - 2) = R (nN (D i)) ∧ ∀ r, r < 8 → p (i + 1) r = true → r ≠ nN (D i) → loc hm M Sl r = R r), ?_, ?_, ?_⟩
    · -- the start
      intro M Sl hI
      have hI0 := i1 M Sl hI
      refine Or.inl ⟨0, M, Sl, i2 0 M Sl hI0, hI0, fun r hr hl => ?_, Or.inl rfl⟩
      unfold loc
      by_cases r0 : r = 0
      · rw [r0, hg.2.2.1, if_pos (by omega)]
      by_cases r1 : r = 1
      · rw [r1, hg.2.2.2.1, if_pos (by omega)]
      rw [hI.1 r (by omega) hr]
      by_cases z : hm r < 8
      · rw [if_pos z]
        have sr : stB p r = true := by unfold stB; rw [hl]; rfl
        have n0 : hm r ≠ 0 := fun e => by
          have := (hg.1.2 0 r (by omega) hr (by rw [hg.2.2.1, e])).2
          rw [itf_s (by unfold stB; simp) sr] at this
          cases this
        have n1 : hm r ≠ 1 := fun e => by
          have := (hg.1.2 1 r (by omega) hr (by rw [hg.2.2.2.1, e])).2
          rw [itf_s (by unfold stB; simp) sr] at this
          cases this
        exact hI.1 (hm r) (by omega) z
      · rw [if_neg z]
        have := hg_lt hg hr
        exact hI.2 _ (by omega)
    · -- a place inside
      intro x M Sl h
      rcases h with ⟨i, R, Z, hi, _, _, hx⟩ | ⟨i, R, Z, hi, _, hs, hx, _⟩
      · have := stlt i hi
        rcases hx with hx | ⟨hx, _⟩ | ⟨hx, _⟩ <;> omega
      · have := stlt i hi
        rw [hs, b2n_t] at this
        omega
    · intro x M Sl j M' Sl' h hN
      have hN : Nx (nN (ek x)) (ed x) (ea x) (eb x) x M Sl j M' Sl' := hN
      obtain ⟨n12, n6, hj, hS', v, hv, v1, v2, v3, v4⟩ := hN
      rcases h with ⟨i, R, Z, hi, hIP, hInv, hx⟩ | ⟨i, R, Z, hi, hIP, hs, hx, hM, hrest⟩
      · have wi := w i hi
        have hk : kp i < 15 := by have := wi.1; omega
        have lr := lv_read w hp hi
        -- a RELOAD of a
        have stepA : sA9 kp A hm i = true → x = stN kp D A B hm i → ((∃ i R Z, i < c ∧ IP i R Z ∧ InvA hm p i R M' Sl' ∧ ((j = stN kp D A B hm i) ∨ (j = stN kp D A B hm i + b2n (sA9 kp A hm i) ∧ (sA9 kp A hm i = true → M' (K - 2) = R (nN (A i)))) ∨ (j = stN kp D A B hm i + b2n (sA9 kp A hm i) + b2n (sB9 kp B hm i) ∧ (sA9 kp A hm i = true → M' (K - 2) = R (nN (A i))) ∧ (sB9 kp B hm i = true → M' (K - 2 + 1) = R (nN (B i))))))) := fun hs hx => by
          obtain ⟨e1, e2, e3⟩ := insA i hi hs
          obtain ⟨a1, a2⟩ := slX_t hs
          have ra := lr.1 a1
          have hl := hel _ ra.1 a2
          have sl := hg_slot hg ra.1 a2
          rw [hx] at hj hS' hv n6 v4
          rw [e1, e2, e3] at hj
          rw [e1] at hS' hv v4
          rw [e2] at hv
          rw [e3] at v4
          have hj : j = stN kp D A B hm i + 1 := by rw [hj]; unfold nxJ; rw [if_neg (fun t => by omega)]
          have hS' : Sl' = Sl := by rw [hS']; unfold nxS; rw [if_neg (by omega)]
          have hv : M' = upd M (K - 2) v := by rw [hv]; unfold nxR; rw [if_pos (by decide), nN_nI hl.1]
          have hvv : v = R (nN (A i)) := by
            rw [v4 rfl, nN_nI hl.2.2, ← hInv _ ra.1 ra.2]
            unfold loc
            rw [if_neg (by omega)]
          refine ⟨i, R, Z, hi, hIP, fun r hr hp2 => ?_, Or.inr (Or.inl ⟨by rw [hj, hs, b2n_t], fun _ => by rw [hv, upd_s, hvv]⟩)⟩
          rw [hv, hS', loc_upd (fun h8 => by have := sl.2 r hr h8; omega)]
          exact hInv r hr hp2
        have stepB : sB9 kp B hm i = true → x = stN kp D A B hm i + b2n (sA9 kp A hm i) → (sA9 kp A hm i = true → M (K - 2) = R (nN (A i))) → ((∃ i R Z, i < c ∧ IP i R Z ∧ InvA hm p i R M' Sl' ∧ ((j = stN kp D A B hm i) ∨ (j = stN kp D A B hm i + b2n (sA9 kp A hm i) ∧ (sA9 kp A hm i = true → M' (K - 2) = R (nN (A i)))) ∨ (j = stN kp D A B hm i + b2n (sA9 kp A hm i) + b2n (sB9 kp B hm i) ∧ (sA9 kp A hm i = true → M' (K - 2) = R (nN (A i))) ∧ (sB9 kp B hm i = true → M' (K - 2 + 1) = R (nN (B i))))))) := fun hs hx hA => by
          obtain ⟨e1, e2, e3⟩ := insB i hi hs
          obtain ⟨a1, a2⟩ := slX_t hs
          have rb := lr.2 a1
          have hl := hel _ rb.1 a2
          have sl := hg_slot hg rb.1 a2
          rw [hx] at hj hS' hv n6 v4
          rw [e1, e2, e3] at hj
          rw [e1] at hS' hv v4
          rw [e2] at hv
          rw [e3] at v4
          have hj : j = stN kp D A B hm i + b2n (sA9 kp A hm i) + 1 := by rw [hj]; unfold nxJ; rw [if_neg (fun t => by omega)]
          have hS' : Sl' = Sl := by rw [hS']; unfold nxS; rw [if_neg (by omega)]
          have hv : M' = upd M (K - 2 + 1) v := by rw [hv]; unfold nxR; rw [if_pos (by decide), nN_nI hl.2.1]
          have hvv : v = R (nN (B i)) := by
            rw [v4 rfl, nN_nI hl.2.2, ← hInv _ rb.1 rb.2]
            unfold loc
            rw [if_neg (by omega)]
          refine ⟨i, R, Z, hi, hIP, fun r hr hp2 => ?_, Or.inr (Or.inr ⟨by rw [hj, hs, b2n_t], fun h => by rw [hv, upd_n _ (by omega)]; exact hA h, fun _ => by rw [hv, upd_s, hvv]⟩)⟩
          rw [hv, hS', loc_upd (fun h8 => by have := sl.2 r hr h8; omega)]
          exact hInv r hr hp2
        have stepO : x = stN kp D A B hm i + b2n (sA9 kp A hm i) + b2n (sB9 kp B hm i) → (sA9 kp A hm i = true → M (K - 2) = R (nN (A i))) → (sB9 kp B hm i = true → M (K - 2 + 1) = R (nN (B i))) → ((∃ i R Z, i < c ∧ IP i R Z ∧ InvA hm p i R M' Sl' ∧ ((j = stN kp D A B hm i) ∨ (j = stN kp D A B hm i + b2n (sA9 kp A hm i) ∧ (sA9 kp A hm i = true → M' (K - 2) = R (nN (A i)))) ∨ (j = stN kp D A B hm i + b2n (sA9 kp A hm i) + b2n (sB9 kp B hm i) ∧ (sA9 kp A hm i = true → M' (K - 2) = R (nN (A i))) ∧ (sB9 kp B hm i = true → M' (K - 2 + 1) = R (nN (B i)))))) ∨
            (∃ i R Z, i < c ∧ IP (i + 1) R Z ∧ sD9 kp D hm i = true ∧ j = stN kp D A B hm i + b2n (sA9 kp A hm i) + b2n (sB9 kp B hm i) + 1 ∧ M' (K - 2) = R (nN (D i)) ∧ ∀ r, r < 8 → p (i + 1) r = true → r ≠ nN (D i) → loc hm M' Sl' r = R r)) := fun hx hA hB => by
          obtain ⟨e1, e2, e3, e4⟩ := insO i hi
          rw [hx] at hj hS' hv n6 n12 v1 v2 v3
          rw [e1] at n12
          rw [e1, e4] at n6
          rw [e1] at hj hS' hv
          rw [e1, e3] at v1 v2
          rw [e1, e3, e4] at v3
          rw [e2, e3] at hj
          rw [e2] at hv
          -- the numbers read
          have rdA : raK (kp i) = true → M (nN (plX hm (raK (kp i)) (A i) (K - 2))) = R (nN (A i)) := fun h => by
            have ra := lr.1 h
            unfold plX
            rw [if_pos h]
            by_cases z : 8 ≤ hm (nN (A i))
            · rw [if_pos z, nN_nI (hel _ ra.1 z).1]
              exact hA (by show slX hm (raK (kp i)) (A i) = true; unfold slX; rw [h, decide_eq_true z]; rfl)
            · rw [if_neg z, nN_nI (by omega), ← hInv _ ra.1 ra.2]
              unfold loc
              rw [if_pos (by omega)]
          have rdB' : rbK (kp i) = true → M (nN (plX hm (rbK (kp i)) (B i) (K - 2 + 1))) = R (nN (B i)) := fun h => by
            have rb := lr.2 h
            unfold plX
            rw [if_pos h]
            by_cases z : 8 ≤ hm (nN (B i))
            · rw [if_pos z, nN_nI (hel _ rb.1 z).2.1]
              exact hB (by show slX hm (rbK (kp i)) (B i) = true; unfold slX; rw [h, decide_eq_true z]; rfl)
            · rw [if_neg z, nN_nI (by omega), ← hInv _ rb.1 rb.2]
              unfold loc
              rw [if_pos (by omega)]
          have k14 : ¬ kp i = 14 := by have := wi.1; omega
          have hS' : Sl' = Sl := by rw [hS']; unfold nxS; rw [if_neg k14]
          -- the same step without homes
          have nxt : IP (nxJ (kp i) (D i) (A i) R i) (nxR (kp i) (D i) R v) (nxS (kp i) (A i) (B i) R Z) := by
            refine i3 i R Z _ _ _ hIP ⟨n12, fun t => n6 ⟨t.1, by rw [rdB' (by rw [t.1]; decide)]; exact t.2⟩, rfl, rfl, v, rfl, fun k1 => ?_, fun k2 => ?_, fun ka => ?_, fun k13 => by have := wi.1; omega⟩
            · rw [v1 k1]; unfold plX; rw [if_neg (by rw [k1]; decide)]
            · rw [v2 k2]; exact rdA (by rw [k2]; decide)
            · have := ar_of _ hk ka
              rw [v3 ka, rdA this.1, rdB' this.2.1]
          have hjc := i2 _ _ _ nxt
          have n13 : (kp i == 13) = false := by have := wi.1; simp; omega
          by_cases ew : wrK (kp i) = true
          · obtain ⟨f1, f2, f3⟩ := wr_fa _ hk ew
            have hng : ¬ goK (kp i) = true := by rw [f2]; decide
            have k9 : ¬ kp i = 9 := fun t => by rw [t] at f2; revert f2; decide
            have hJ1 : nxJ (kp i) (D i) (A i) R i = i + 1 := by unfold nxJ; rw [if_neg (fun t => by rcases t with t | t; exact k9 t; exact f3 t.1)]
            rw [hJ1] at nxt hjc
            have hj : j = stN kp D A B hm i + b2n (sA9 kp A hm i) + b2n (sB9 kp B hm i) + 1 := by rw [hj]; unfold nxJ; rw [if_neg (fun t => by rcases t with t | t; exact k9 t; exact f3 t.1)]
            have rd := regD i hi ew
            rw [if_neg hng] at hv
            have hw13 : (wrK (kp i) || kp i == 13) = true := by rw [ew]; rfl
            have hR2 : ∀ r, nxR (kp i) (D i) R v r = if r = nN (D i) then v else R r := fun r => by
              unfold nxR
              rw [if_pos hw13]
              by_cases z : r = nN (D i)
              · rw [if_pos z, z, upd_s]
              · rw [if_neg z, upd_n _ z]
            by_cases z : 8 ≤ hm (nN (D i))
            · -- d lies in a slot
              have hsD : sD9 kp D hm i = true := by show slX hm (wrK (kp i)) (D i) = true; unfold slX; rw [ew, decide_eq_true z]; rfl
              have sl := hg_slot hg rd z
              have hv : M' = upd M (K - 2) v := by
                rw [hv]
                unfold nxR plX
                rw [if_pos hw13, if_pos ew, if_pos z, nN_nI (hel _ rd z).1]
              refine Or.inr ⟨i, _, _, hi, nxt, hsD, hj, ?_, fun r hr hp2 hne => ?_⟩
              · rw [hv, upd_s, hR2, if_pos rfl]
              · rw [hv, hS', loc_upd (fun h8 => by have := sl.2 r hr h8; omega), hR2, if_neg hne]
                exact hInv r hr (lv_back w hp hi hr hp2 (Or.inl ⟨f1, rfl⟩) (fun t => hne t.2)).1
            · -- d lies in a machine register
              have hsD : sD9 kp D hm i = false := by show slX hm (wrK (kp i)) (D i) = false; unfold slX; rw [decide_eq_false z, Bool.and_false]
              have hv : M' = upd M (hm (nN (D i))) v := by
                rw [hv]
                unfold nxR plX
                rw [if_pos hw13, if_pos ew, if_neg z, nN_nI (by omega)]
              have hjs : j = stN kp D A B hm (i + 1) := by
                rw [hj, st_s]
                show _ = _ + (b2n (sA9 kp A hm i) + b2n (sB9 kp B hm i) + 1 + b2n (sD9 kp D hm i))
                rw [hsD, b2n_f]; omega
              refine Or.inl ⟨i + 1, _, _, hjc, nxt, fun r hr hp2 => ?_, Or.inl hjs⟩
              rw [hv, hS', hR2]
              by_cases hne : r = nN (D i)
              · rw [if_pos hne]
                unfold loc
                rw [hne, if_pos (by omega), upd_s]
              · rw [if_neg hne]
                obtain ⟨b1, b2⟩ := lv_back w hp hi hr hp2 (Or.inl ⟨f1, rfl⟩) (fun t => hne t.2)
                have hold := hInv r hr b1
                by_cases hsame : hm r < 8 ∧ hm r = hm (nN (D i))
                · -- the same home: a MOVE from r
                  have hdI : D i = nI (nN (D i)) := by
                    obtain ⟨q, q1, q2⟩ := wi.2.1 ew
                    rw [q2, nN_nI q1]
                  have ho : oB kp D A p i r = false := by
                    cases eo : oB kp D A p i r with
                    | false => rfl
                    | true =>
                      have hit := itf_w (x := nN (D i)) (y := r) hi ew hdI eo
                      have := (hg_same hg hr rd hne hsame.2).2
                      rcases this with ⟨_, t⟩ | ⟨_, t⟩
                      · rw [hit.2] at t; cases t
                      · rw [hit.1] at t; cases t
                  unfold oB at ho
                  rw [b2, Bool.true_and] at ho
                  have hmv : kp i = 2 ∧ A i = nI r := by
                    cases e : (kp i == 2 && decide (A i = nI r)) with
                    | false => rw [e] at ho; cases ho
                    | true => rw [Bool.and_eq_true, beq_iff_eq, decide_eq_true_eq] at e; exact e
                  have hvr : v = R r := by rw [v2 hmv.1, rdA (by rw [hmv.1]; decide), hmv.2, nN_nI hr]
                  unfold loc
                  rw [if_pos hsame.1, hsame.2, upd_s, hvr]
                · rw [loc_upd (fun h8 t => hsame ⟨h8, t⟩)]
                  exact hold
          · -- nothing is written
            have ew : wrK (kp i) = false := eq_false_of_ne_true ew
            have hsD : sD9 kp D hm i = false := by show slX hm (wrK (kp i)) (D i) = false; unfold slX; rw [ew]; rfl
            have hv : M' = M := by rw [hv]; unfold nxR; rw [ew, n13, if_neg (by decide)]
            have hR2 : nxR (kp i) (D i) R v = R := by unfold nxR; rw [ew, n13, if_neg (by decide)]
            rw [hR2] at nxt
            have hInvJ : ∀ t, ((faK (kp i) = true ∧ t = i + 1) ∨ (goK (kp i) = true ∧ t = nN (D i))) → InvA hm p t R M Sl := fun t ht r hr hp2 => hInv r hr (lv_back w hp hi hr hp2 ht (fun y => by rw [ew] at y; cases y.1)).1
            rw [hv, hS']
            by_cases hgo : kp i = 9 ∨ (kp i = 10 ∧ R (nN (A i)) = 0)
            · have hg2 : goK (kp i) = true := by
                rcases hgo with t | t
                · rw [t]; decide
                · rw [t.1]; decide
              have hJ1 : nxJ (kp i) (D i) (A i) R i = nN (D i) := by unfold nxJ; rw [if_pos hgo]
              rw [hJ1] at nxt hjc
              have hj : j = stN kp D A B hm (nN (D i)) := by
                rw [hj, if_pos hg2]
                unfold nxJ
                rw [if_pos]
                · exact nI_clamp (by have := hst4 (nN (D i)); omega)
                · rcases hgo with t | t
                  · exact Or.inl t
                  · exact Or.inr ⟨t.1, by rw [rdA (by rw [t.1]; decide)]; exact t.2⟩
              exact Or.inl ⟨nN (D i), R, _, hjc, nxt, hInvJ _ (Or.inr ⟨hg2, rfl⟩), Or.inl hj⟩
            · have hJ1 : nxJ (kp i) (D i) (A i) R i = i + 1 := by unfold nxJ; rw [if_neg hgo]
              rw [hJ1] at nxt hjc
              have hfa : faK (kp i) = true := by
                unfold faK
                have n9 : ¬ kp i = 9 := fun t => hgo (Or.inl t)
                simp [n9, n12]
              have hj : j = stN kp D A B hm (i + 1) := by
                rw [hj]
                unfold nxJ
                rw [if_neg, st_s]
                · show _ = _ + (b2n (sA9 kp A hm i) + b2n (sB9 kp B hm i) + 1 + b2n (sD9 kp D hm i))
                  rw [hsD, b2n_f]; omega
                · intro t
                  rcases t with t | t
                  · exact hgo (Or.inl t)
                  · exact hgo (Or.inr ⟨t.1, by rw [← rdA (by rw [t.1]; decide)]; exact t.2⟩)
              exact Or.inl ⟨i + 1, R, _, hjc, nxt, hInvJ _ (Or.inl ⟨hfa, rfl⟩), Or.inl hj⟩
        -- which place it is
        rcases hx with hx | ⟨hx, hA⟩ | ⟨hx, hA, hB⟩
        · cases ea2 : sA9 kp A hm i with
          | true => exact Or.inl (stepA ea2 hx)
          | false =>
            have hx2 : x = stN kp D A B hm i + b2n (sA9 kp A hm i) := by rw [hx, ea2, b2n_f, Nat.add_zero (stN kp D A B hm i)]
            have hA : sA9 kp A hm i = true → M (K - 2) = R (nN (A i)) := fun t => by rw [ea2] at t; cases t
            cases eb2 : sB9 kp B hm i with
            | true => exact Or.inl (stepB eb2 hx2 hA)
            | false => exact stepO (by rw [hx2, eb2, b2n_f, Nat.add_zero (stN kp D A B hm i + b2n (sA9 kp A hm i))]) hA (fun t => by rw [eb2] at t; cases t)
        · cases eb2 : sB9 kp B hm i with
          | true => exact Or.inl (stepB eb2 hx hA)
          | false => exact stepO (by rw [hx, eb2, b2n_f, Nat.add_zero (stN kp D A B hm i + b2n (sA9 kp A hm i))]) hA (fun t => by rw [eb2] at t; cases t)
        · exact stepO hx hA hB
      · -- the SPILL
        obtain ⟨e1, e2, e3⟩ := insD i hi hs
        obtain ⟨a1, a2⟩ := slX_t hs
        have rd := regD i hi a1
        have hl := hel _ rd a2
        rw [hx] at hj hS' hv
        rw [e1] at hj hS' hv
        rw [e2] at hj hS'
        rw [e3] at hS'
        have hjc := i2 _ _ _ hIP
        have hj : j = stN kp D A B hm (i + 1) := by
          rw [hj]
          unfold nxJ
          rw [if_neg (fun t => by omega), st_s]
          show _ = _ + (b2n (sA9 kp A hm i) + b2n (sB9 kp B hm i) + 1 + b2n (sD9 kp D hm i))
          rw [hs, b2n_t]; omega
        have hv : M' = M := by rw [hv]; unfold nxR; rw [if_neg (by decide)]
        have hS' : Sl' = upd Sl (hm (nN (D i)) - 8) (M (K - 2)) := by rw [hS']; unfold nxS; rw [if_pos rfl, nN_nI hl.2.2, nN_nI hl.1]
        refine Or.inl ⟨i + 1, R, Z, hjc, hIP, fun r hr hp2 => ?_, Or.inl hj⟩
        rw [hv, hS']
        unfold loc
        by_cases hne : r = nN (D i)
        · rw [hne, if_neg (by omega), upd_s, hM]
        · by_cases z : hm r < 8
          · rw [if_pos z]
            have := hrest r hr hp2 hne
            unfold loc at this
            rw [if_pos z] at this
            exact this
          · have hdiff : hm r ≠ hm (nN (D i)) := fun t => by
              have := (hg_same hg hr rd hne t).1
              omega
            rw [if_neg z, upd_n _ (by omega)]
            have := hrest r hr hp2 hne
            unfold loc at this
            rw [if_neg z] at this
            exact this
end AA
