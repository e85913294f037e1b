/-! ALLOCATE: the whole rewriting, both sides. -/
section RW
variable (kp : Nat → Nat) (D A B : Nat → Int32) (hm : Nat → Nat)
abbrev sA9 (i : Nat) : Bool := slX hm (raK (kp i)) (A i)
abbrev sB9 (i : Nat) : Bool := slX hm (rbK (kp i)) (B i)
abbrev sD9 (i : Nat) : Bool := slX hm (wrK (kp i)) (D i)
abbrev exN (i : Nat) : Nat := exB (sA9 kp A hm i) (sB9 kp B hm i) (sD9 kp D hm i)
abbrev stN (i : Nat) : Nat := smN (exN kp D A B hm) i
/-- a row behind the first i instructions -/
def emR (base : Nat) (va vb vo vd : Nat → Int32) (f : Nat → Int32) : Nat → Nat → Int32
  | 0 => f
  | i + 1 => emF (sA9 kp A hm i) (sB9 kp B hm i) (sD9 kp D hm i) (emR base va vb vo vd f i) (base + stN kp D A B hm i) (va i) (vb i) (vo i) (vd i)
def rowA (h base : Nat) : (Nat → Int32) → Nat → Nat → Int32 := emR kp D A B hm base (fun i => nI (hm (nN (A i)) - 8)) (fun i => nI (hm (nN (B i)) - 8)) (fun i => plX hm (raK (kp i)) (A i) h) (fun _ => nI h)
def rowB (h base : Nat) : (Nat → Int32) → Nat → Nat → Int32 := emR kp D A B hm base (fun _ => 0) (fun _ => 0) (fun i => plX hm (rbK (kp i)) (B i) (h + 1)) (fun i => nI (hm (nN (D i)) - 8))
def rowD (h base : Nat) : (Nat → Int32) → Nat → Nat → Int32 := emR kp D A B hm base (fun _ => nI h) (fun _ => nI (h + 1)) (fun i => plX hm (wrK (kp i)) (D i) h) (fun _ => 0)
def rowK (base : Nat) : (Nat → Int32) → Nat → Nat → Int32 := emR kp D A B hm base (fun _ => 13) (fun _ => 13) (fun i => nI (kp i)) (fun _ => 14)
end RW
section RW2
variable {kp : Nat → Nat} {D A B : Nat → Int32} {hm : Nat → Nat} {h base c : Nat}
theorem st_s (i : Nat) : stN kp D A B hm (i + 1) = stN kp D A B hm i + exN kp D A B hm i := rfl
theorem ex_4 (i : Nat) : exN kp D A B hm i ≤ 4 := by
  have a1 := b2n_1 (sA9 kp A hm i)
  have a2 := b2n_1 (sB9 kp B hm i)
  have a3 := b2n_1 (sD9 kp D hm i)
  show b2n _ + b2n _ + 1 + b2n _ ≤ 4
  omega
theorem st_4 : ∀ i, stN kp D A B hm i ≤ 4 * i
  | 0 => Nat.le_refl _
  | i + 1 => by
    have := st_4 i
    have := ex_4 (kp := kp) (D := D) (A := A) (B := B) (hm := hm) i
    rw [st_s]; omega
theorem st_mono {i j : Nat} (hij : i ≤ j) : stN kp D A B hm i ≤ stN kp D A B hm j := by
  induction j with
  | zero => rw [show i = 0 by omega]; exact Nat.le_refl _
  | succ j ih =>
    by_cases z : i = j + 1
    · rw [z]; exact Nat.le_refl _
    · have := ih (by omega)
      rw [st_s]; omega
theorem st_onto : ∀ (c x : Nat), x < stN kp D A B hm c → ∃ i, i < c ∧ stN kp D A B hm i ≤ x ∧ x < stN kp D A B hm (i + 1)
  | 0, x, hx => absurd hx (Nat.not_lt_zero _)
  | c + 1, x, hx => by
    by_cases z : x < stN kp D A B hm c
    · obtain ⟨i, h1, h2⟩ := st_onto c x z
      exact ⟨i, by omega, h2⟩
    · exact ⟨c, by omega, by omega, hx⟩
variable {va vb vo vd : Nat → Int32} {f g : Nat → Int32}
theorem emR_lo : ∀ (i : Nat) {x : Nat}, x < base → emR kp D A B hm base va vb vo vd f i x = f x
  | 0, _, _ => rfl
  | i + 1, x, hx => by
    show emF _ _ _ (emR kp D A B hm base va vb vo vd f i) (base + stN kp D A B hm i) _ _ _ _ x = f x
    rw [em_lt (by omega)]
    exact emR_lo i hx
theorem emR_mono {i j : Nat} (hij : i ≤ j) {x : Nat} (hx : x < base + stN kp D A B hm i) : emR kp D A B hm base va vb vo vd f j x = emR kp D A B hm base va vb vo vd f i x := by
  induction j with
  | zero => rw [show i = 0 by omega]
  | succ j ih =>
    by_cases z : i = j + 1
    · rw [z]
    · have hm2 := st_mono (kp := kp) (D := D) (A := A) (B := B) (hm := hm) (show i ≤ j by omega)
      show emF _ _ _ (emR kp D A B hm base va vb vo vd f j) (base + stN kp D A B hm j) _ _ _ _ x = _
      rw [em_lt (by omega)]
      exact ih (by omega)
theorem emR_shift : ∀ (i : Nat) (x : Nat), x < stN kp D A B hm i → emR kp D A B hm 300 va vb vo vd g i (300 + x) = emR kp D A B hm 0 va vb vo vd f i x
  | 0, x, hx => absurd hx (Nat.not_lt_zero _)
  | i + 1, x, hx => by
    show emF _ _ _ (emR kp D A B hm 300 va vb vo vd g i) (300 + stN kp D A B hm i) _ _ _ _ (300 + x) = emF _ _ _ (emR kp D A B hm 0 va vb vo vd f i) (0 + stN kp D A B hm i) _ _ _ _ x
    rw [Nat.zero_add]
    exact em_shift (emR_shift i) x hx
/-- the values at the four places of instruction i -/
theorem emR_A {i : Nat} (hi : i < c) (hs : sA9 kp A hm i = true) : emR kp D A B hm base va vb vo vd f c (base + stN kp D A B hm i) = va i := by
  rw [emR_mono (i := i + 1) (by omega) (by rw [st_s]; show _ < base + (stN kp D A B hm i + (b2n _ + b2n _ + 1 + b2n _)); omega)]
  exact em_A hs
theorem emR_B {i : Nat} (hi : i < c) (hs : sB9 kp B hm i = true) : emR kp D A B hm base va vb vo vd f c (base + stN kp D A B hm i + b2n (sA9 kp A hm i)) = vb i := by
  rw [emR_mono (i := i + 1) (by omega) (by rw [st_s]; show _ < base + (stN kp D A B hm i + (b2n _ + b2n (sB9 kp B hm i) + 1 + b2n _)); omega)]
  exact em_B hs
theorem emR_O {i : Nat} (hi : i < c) : emR kp D A B hm base va vb vo vd f c (base + stN kp D A B hm i + b2n (sA9 kp A hm i) + b2n (sB9 kp B hm i)) = vo i := by
  rw [emR_mono (i := i + 1) (by omega) (by rw [st_s]; show _ < base + (stN kp D A B hm i + (b2n _ + b2n (sB9 kp B hm i) + 1 + b2n _)); omega)]
  exact em_O
theorem emR_D {i : Nat} (hi : i < c) (hs : sD9 kp D hm i = true) : emR kp D A B hm base va vb vo vd f c (base + stN kp D A B hm i + b2n (sA9 kp A hm i) + b2n (sB9 kp B hm i) + 1) = vd i := by
  rw [emR_mono (i := i + 1) (by omega) (by rw [st_s]; show _ < base + (stN kp D A B hm i + (b2n _ + b2n (sB9 kp B hm i) + 1 + b2n (sD9 kp D hm i))); rw [hs, b2n_t]; omega)]
  exact em_D hs
/-- each place is one of these four -/
theorem st_cases {x : Nat} (hx : x < stN kp D A B hm c) : ∃ i, i < c ∧ ((sA9 kp A hm i = true ∧ x = stN kp D A B hm i) ∨ (sB9 kp B hm i = true ∧ x = stN kp D A B hm i + b2n (sA9 kp A hm i)) ∨ x = stN kp D A B hm i + b2n (sA9 kp A hm i) + b2n (sB9 kp B hm i) ∨ (sD9 kp D hm i = true ∧ x = stN kp D A B hm i + b2n (sA9 kp A hm i) + b2n (sB9 kp B hm i) + 1)) := by
  obtain ⟨i, h1, h2, h3⟩ := st_onto c x hx
  exact ⟨i, h1, em_cases h2 h3⟩
theorem row_kind (w : WP c kp D A B) {fk fd : Nat → Int32} {x : Nat} (hx : x < stN kp D A B hm c) : ∃ kk, kk < 15 ∧ rowK kp D A B hm base fk c (base + x) = nI kk ∧ (goK kk = true → ∃ i, i < c ∧ kk = kp i ∧ rowD kp D A B hm h base fd c (base + x) = D i) := by
  obtain ⟨i, h1, h2⟩ := st_cases hx
  have wi := w i h1
  have hk : kp i < 15 := by have := wi.1; omega
  rcases h2 with ⟨a, b⟩ | ⟨a, b⟩ | b | ⟨a, b⟩
  · rw [b]; exact ⟨13, by omega, emR_A h1 a, fun hg => absurd hg (by decide)⟩
  · rw [b, ← Nat.add_assoc]; exact ⟨13, by omega, emR_B h1 a, fun hg => absurd hg (by decide)⟩
  · rw [b, ← Nat.add_assoc, ← Nat.add_assoc]
    refine ⟨kp i, hk, emR_O h1, fun hg => ⟨i, h1, rfl, ?_⟩⟩
    have : rowD kp D A B hm h base fd c (base + stN kp D A B hm i + b2n (sA9 kp A hm i) + b2n (sB9 kp B hm i)) = plX hm (wrK (kp i)) (D i) h := emR_O h1
    rw [this]
    unfold plX
    rw [go_wr _ hk hg, if_neg (by decide)]
  · rw [b, ← Nat.add_assoc, ← Nat.add_assoc, ← Nat.add_assoc]; exact ⟨14, by omega, emR_D h1 a, fun hg => absurd hg (by decide)⟩
end RW2
section RWL
variable {n L Ls c : Nat} {kp : Nat → Nat} {hm : Nat → Nat} {h : Nat} {ho fa fb fd fk ga gb gd9 gk fs : Nat → Int32} {D A B : Nat → Int32}
/-- d at last -/
def dFin (kp : Nat → Nat) (D A B : Nat → Int32) (hm : Nat → Nat) (h : Nat) (c : Nat) : Nat → Int32 := fun x => if goK (nN (rowK kp D A B hm 0 (fun _ => 0) c x)) = true then nI (stN kp D A B hm (nN (rowD kp D A B hm h 0 (fun _ => 0) c x))) else rowD kp D A B hm h 0 (fun _ => 0) c x
theorem row_base {va vb vo vd f : Nat → Int32} {x : Nat} (hx : x < stN kp D A B hm c) : emR kp D A B hm 0 va vb vo vd f c x = emR kp D A B hm 0 va vb vo vd (fun _ => 0) c x := by
  rw [← emR_shift (g := f) c x hx, emR_shift (f := fun _ => 0) c x hx]
theorem s_rw71 (hc : c ≤ 24) (hL : 96 ≤ L) (hLL : L < 2 ^ 31) (w : WP c kp D A B) (hJ : ∀ i, i < c → goK (kp i) = true → ∃ t, t < c ∧ D i = nI t) {sa sb sd sk st ea eb : Nat → Int32} (hst : ∀ i, i ≤ c → st i = nI (stN kp D A B hm i)) (u : Int32) : ∀ (k x : Nat), x ≤ stN kp D A B hm c → stN kp D A B hm c - x < k →
    f_X0_rewrite_71 n k Ls L ho sa sb sd sk st ea eb (va_cpy (dFin kp D A B hm h c) (rowD kp D A B hm h 0 fd c) 0 0 x) (rowK kp D A B hm 0 fk c) u (nI (stN kp D A B hm c)) (nI x) = some (sa, sb, sd, sk, st, ea, eb, va_cpy (dFin kp D A B hm h c) (rowD kp D A B hm h 0 fd c) 0 0 (stN kp D A B hm c), rowK kp D A B hm 0 fk c, u, nI (stN kp D A B hm c)) := by
  have h96 := st_4 (kp := kp) (D := D) (A := A) (B := B) (hm := hm) c
  intro k
  induction k with
  | zero => intro x h1 h2; omega
  | succ k ih =>
    intro x hx hk
    rw [f_X0_rewrite_71]
    by_cases e : x = stN kp D A B hm c
    · rw [e, if_pos (nI_le (Nat.le_refl _) (by omega))]
    · have hlt : x < stN kp D A B hm c := by omega
      obtain ⟨kk, k1, k2, k3⟩ := row_kind (h := h) (base := 0) (fk := fk) (fd := fd) w hlt
      rw [Nat.zero_add] at k2
      have g : ∀ {α : Type} {y : Option α}, gd (nI x) L y = y := pn_gd (by omega) hLL
      have hkb : rowK kp D A B hm 0 fk c x = rowK kp D A B hm 0 (fun _ => 0) c x := row_base hlt
      have hdb : rowD kp D A B hm h 0 fd c x = rowD kp D A B hm h 0 (fun _ => 0) c x := row_base hlt
      have hnk : nN (rowK kp D A B hm 0 (fun _ => 0) c x) = kk := by rw [← hkb, k2]; exact nI_clamp (by omega)
      rw [if_neg (nI_ge hlt (by omega))]
      simp only [g, pn_s]
      rw [nI_clamp (by omega), k2, s_goesToD _ k1, cpy_at0]
      simp only [Option.bind_some]
      have hih := ih (x + 1) (by omega) (by omega)
      rw [← cpy_n0] at hih
      cases eg : goK kk with
      | false =>
        rw [if_pos (show b2i false = 0 by decide)]
        have : dFin kp D A B hm h c x = rowD kp D A B hm h 0 fd c x := by unfold dFin; rw [hnk, eg, if_neg (by decide), hdb]
        rw [this, upd_same (cpy_at0 _ _ _).symm] at hih
        exact hih
      | true =>
        obtain ⟨i, i1, i2, i3⟩ := k3 eg
        rw [Nat.zero_add] at i3
        obtain ⟨t, t1, t2⟩ := hJ i i1 (by rw [← i2]; exact eg)
        have hnt : nN (nI t) = t := nI_clamp (by omega)
        have : dFin kp D A B hm h c x = nI (stN kp D A B hm t) := by unfold dFin; rw [hnk, eg, if_pos rfl, ← hdb, i3, t2, hnt]
        rw [this] at hih
        rw [if_neg (show ¬ b2i true = 0 by decide), i3, t2, pn_gd (by omega) (by omega), nI_clamp (show t < 2 ^ 31 by omega), hst t (by omega)]
        exact hih
theorem s_rw14 {K : Nat} (hn : 96 < n) (hc : c ≤ 24) (hK : 2 ≤ K) (hKL : K ≤ 8) (hLs : c ≤ Ls) (hLs2 : Ls < 2 ^ 31) (hL : 96 ≤ L) (hLL : L < 2 ^ 31) {sa sb sd sk : Nat → Int32} (hk : ∀ i, i < c → sk i = nI (kp i)) (w : WP c kp sd sa sb) (hJ : ∀ i, i < c → goK (kp i) = true → ∃ t, t < c ∧ sd i = nI t) (hH : RelN hm 8 ho) : ∀ (k i : Nat) {st : Nat → Int32}, i ≤ c → c - i < k → (∀ j, j < i → st j = nI (stN kp sd sa sb hm j)) →
    ∃ st', f_X0_rewrite_14 n k Ls L ho sa sb sd sk st (rowA kp sd sa sb hm (K - 2) 0 fa i) (rowB kp sd sa sb hm (K - 2) 0 fb i) (rowD kp sd sa sb hm (K - 2) 0 fd i) (rowK kp sd sa sb hm 0 fk i) (nI c) (nI (stN kp sd sa sb hm i)) (nI K) (nI i) = some (sa, sb, sd, sk, st', rowA kp sd sa sb hm (K - 2) 0 fa c, rowB kp sd sa sb hm (K - 2) 0 fb c, va_cpy (dFin kp sd sa sb hm (K - 2) c) (rowD kp sd sa sb hm (K - 2) 0 fd c) 0 0 (stN kp sd sa sb hm c), rowK kp sd sa sb hm 0 fk c, nI c, nI (stN kp sd sa sb hm c)) := by
  intro k
  induction k with
  | zero => intro i st h1 h2; omega
  | succ k ih =>
    intro i st hi hkk hst
    have h4 := st_4 (kp := kp) (D := sd) (A := sa) (B := sb) (hm := hm) i
    rw [f_X0_rewrite_14]
    by_cases e : i = c
    · subst e
      rw [if_pos (nI_le (Nat.le_refl _) (by omega)), pn_gd (by omega) (by omega), nI_clamp (by omega)]
      have := s_rw71 (n := n) (L := L) (Ls := Ls) (ho := ho) (h := K - 2) (fd := fd) (fk := fk) (sa := sa) (sb := sb) (sd := sd) (sk := sk) (st := upd st i (nI (stN kp sd sa sb hm i))) (ea := rowA kp sd sa sb hm (K - 2) 0 fa i) (eb := rowB kp sd sa sb hm (K - 2) 0 fb i) hc hL hLL w hJ (fun j hj => by
        by_cases z : j = i
        · rw [z, upd_s]
        · rw [upd_n _ z]; exact hst j (by omega)) (nI i) n 0 (by omega) (by omega)
      rw [cpy_0, ← pn_0] at this
      exact ⟨_, this⟩
    · have hlt : i < c := by omega
      have k2 : nI K - (2 : Int32) = nI (K - 2) := nI_sub (b := 2) hK
      have k1 : nI K - (1 : Int32) = nI (K - 2 + 1) := by
        have := nI_sub (a := K) (b := 1) (by omega)
        rw [show K - 1 = K - 2 + 1 by omega] at this
        exact this
      rw [if_neg (nI_ge hlt (by omega)), pn_gd (by omega) (by omega), k2, k1, s_expand (h := K - 2) (by omega) hLs2 (by omega) hLL (hk i hlt) (w i hlt) hH, nI_clamp (by omega)]
      simp only [Option.bind_some, pn_s]
      have hih := ih (i + 1) (st := upd st i (nI (stN kp sd sa sb hm i))) (by omega) (by omega) (fun j hj => by
        by_cases z : j = i
        · rw [z, upd_s]
        · rw [upd_n _ z]; exact hst j (by omega))
      have ea : rowA kp sd sa sb hm (K - 2) 0 fa (i + 1) = emF (sA9 kp sa hm i) (sB9 kp sb hm i) (sD9 kp sd hm i) (rowA kp sd sa sb hm (K - 2) 0 fa i) (stN kp sd sa sb hm i) (nI (hm (nN (sa i)) - 8)) (nI (hm (nN (sb i)) - 8)) (plX hm (raK (kp i)) (sa i) (K - 2)) (nI (K - 2)) := by
        show emF _ _ _ _ (0 + stN kp sd sa sb hm i) _ _ _ _ = _
        rw [Nat.zero_add]; rfl
      have eb : rowB kp sd sa sb hm (K - 2) 0 fb (i + 1) = emF (sA9 kp sa hm i) (sB9 kp sb hm i) (sD9 kp sd hm i) (rowB kp sd sa sb hm (K - 2) 0 fb i) (stN kp sd sa sb hm i) 0 0 (plX hm (rbK (kp i)) (sb i) (K - 2 + 1)) (nI (hm (nN (sd i)) - 8)) := by
        show emF _ _ _ _ (0 + stN kp sd sa sb hm i) _ _ _ _ = _
        rw [Nat.zero_add]; rfl
      have ed : rowD kp sd sa sb hm (K - 2) 0 fd (i + 1) = emF (sA9 kp sa hm i) (sB9 kp sb hm i) (sD9 kp sd hm i) (rowD kp sd sa sb hm (K - 2) 0 fd i) (stN kp sd sa sb hm i) (nI (K - 2)) (nI (K - 2 + 1)) (plX hm (wrK (kp i)) (sd i) (K - 2)) 0 := by
        show emF _ _ _ _ (0 + stN kp sd sa sb hm i) _ _ _ _ = _
        rw [Nat.zero_add]; rfl
      have ek : rowK kp sd sa sb hm 0 fk (i + 1) = emF (sA9 kp sa hm i) (sB9 kp sb hm i) (sD9 kp sd hm i) (rowK kp sd sa sb hm 0 fk i) (stN kp sd sa sb hm i) 13 13 (nI (kp i)) 14 := by
        show emF _ _ _ _ (0 + stN kp sd sa sb hm i) _ _ _ _ = _
        rw [Nat.zero_add]; rfl
      rw [ea, eb, ed, ek] at hih
      exact hih
end RWL
