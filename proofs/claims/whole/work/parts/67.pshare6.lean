/-! SHARE: blocks and the sweep, both sides. -/
def tgF (kp : Nat → Nat) (D : Nat → Int32) (i : Nat) : Nat → Nat → Bool
  | 0, _ => false
  | m + 1, j => (goK (kp j) && decide (D j = nI i)) || tgF kp D i m (j + 1)
def bgF (kp : Nat → Nat) (D : Nat → Int32) (c i : Nat) : Bool := i == 0 || (goK (kp (i - 1)) || kp (i - 1) == 12) || tgF kp D i c 0
def s00 : HV := (fun r => r, 8, fun _ _ _ => none)
def shS (kp : Nat → Nat) (D A B : Nat → Int32) (c : Nat) : Nat → HV
  | 0 => s00
  | i + 1 => shN (if bgF kp D c i = true then s00 else shS kp D A B c i) (kp i) (D i) (A i) (B i)
abbrev shI (kp : Nat → Nat) (D A B : Nat → Int32) (c i : Nat) : HV := if bgF kp D c i = true then s00 else shS kp D A B c i
abbrev sK' (kp : Nat → Nat) (D A B : Nat → Int32) (c : Nat) : Nat → Nat := fun i => shK (shI kp D A B c i) (kp i) (D i) (A i) (B i)
abbrev sD' (kp : Nat → Nat) (D A B : Nat → Int32) (c : Nat) : Nat → Int32 := fun i => shD (shI kp D A B c i) (kp i) (D i) (A i) (B i)
abbrev sA' (kp : Nat → Nat) (D A B : Nat → Int32) (c : Nat) : Nat → Int32 := fun i => shA (shI kp D A B c i) (kp i) (D i) (A i) (B i)
abbrev sB' (kp : Nat → Nat) (D A B : Nat → Int32) (c : Nat) : Nat → Int32 := fun i => shB (shI kp D A B c i) (kp i) (D i) (A i) (B i)
abbrev sC' (kp : Nat → Nat) (D A B : Nat → Int32) (c : Nat) : Nat → Bool := fun i => shC (shI kp D A B c i) (kp i) (D i) (A i) (B i)
theorem tgF_cong {kp kq : Nat → Nat} {D E : Nat → Int32} {i : Nat} : ∀ (m j : Nat), (∀ x, j ≤ x → x < j + m → (goK (kq x) && decide (E x = nI i)) = (goK (kp x) && decide (D x = nI i))) → tgF kq E i m j = tgF kp D i m j
  | 0, _, _ => rfl
  | m + 1, j, h => by
    unfold tgF
    rw [h j (Nat.le_refl _) (by omega), tgF_cong m (j + 1) (fun x h1 h2 => h x (by omega) (by omega))]
theorem s_isTarget2 (n : Nat) {L c i : Nat} {fd fk : Nat → Int32} {kp : Nat → Nat} (hL : c ≤ L) (hLL : L < 2 ^ 31) (hk : ∀ j, j < c → fk j = nI (kp j) ∧ kp j < 15) : ∀ (k j : Nat), j ≤ c → c - j < k → f_X6_isTarget_2 n k L fd fk (nI c) (nI i) (nI j) = some (b2i (tgF kp fd i (c - j) j)) := by
  intro k
  induction k with
  | zero => intro j h1 h2; omega
  | succ k ih =>
    intro j hj hkk
    rw [f_X6_isTarget_2]
    by_cases e : j = c
    · subst e
      rw [if_pos (nI_le (Nat.le_refl _) (by omega)), Nat.sub_self]; rfl
    · have hlt : j < c := by omega
      have hsub : c - j = (c - (j + 1)) + 1 := by omega
      have g : ∀ {α : Type} {x : Option α}, gd (nI j) L x = x := pn_gd (by omega) hLL
      rw [if_neg (nI_ge hlt (by omega)), hsub]
      simp only [g, pn_s]
      rw [nI_clamp (by omega), (hk j hlt).1, s_goesToD _ (hk j hlt).2]
      simp only [Option.bind_some]
      have hih := ih (j + 1) (by omega) (by omega)
      show _ = some (b2i ((goK (kp j) && decide (fd j = nI i)) || tgF kp fd i (c - (j + 1)) (j + 1)))
      cases e1 : goK (kp j) with
      | false => rw [if_pos (show b2i false = 0 by decide), hih]; simp
      | true =>
        rw [if_neg (show ¬ b2i true = 0 by decide)]
        by_cases e2 : fd j = nI i
        · rw [if_pos e2, decide_eq_true e2]; rfl
        · rw [if_neg e2, hih, decide_eq_false e2]; simp
theorem s_begins {n L c i : Nat} (hn : c < n) {fd fk : Nat → Int32} {kp : Nat → Nat} (hc : c ≤ 24) (hi : i < c) (hL : c ≤ L) (hLL : L < 2 ^ 31) (hk : ∀ j, j < c → fk j = nI (kp j) ∧ kp j < 15) : f_X7_beginsBlock n L fd fk (nI c) (nI i) = some (b2i (bgF kp fd c i)) := by
  unfold f_X7_beginsBlock bgF
  by_cases z : i = 0
  · subst z; rfl
  · have hz : (i == 0) = false := by simp [z]
    have h1 : nI i - 1 = nI (i - 1) := by
      have := pn_p (i - 1)
      rw [show i - 1 + 1 = i by omega] at this
      exact this
    have ht : f_X6_isTarget n L fd fk (nI c) (nI i) = some (b2i (tgF kp fd i c 0)) := s_isTarget2 n hL hLL hk n 0 (by omega) (by omega)
    rw [if_neg (nI_ne0 (by omega) (by omega)), ht, h1, hz]
    simp only [Option.bind_some]
    have hp := hk (i - 1) (by omega)
    rw [pn_gd (by omega) hLL, nI_clamp (by omega), hp.1, s_goesToD _ hp.2]
    simp only [Option.bind_some, ki12 hp.2]
    cases tgF kp fd i c 0 with
    | true => simp [b2i]
    | false =>
      rw [if_pos (show b2i false = 0 by decide)]
      cases goK (kp (i - 1)) with
      | true => simp [b2i]
      | false =>
        rw [if_pos (show b2i false = 0 by decide)]
        by_cases y : kp (i - 1) = 12
        · rw [if_pos y]; simp [y, b2i]
        · rw [if_neg y]; simp [y, b2i]
theorem m_isBegin42 (n : Nat) {c i : Nat} {fd fk fs : Nat → Int32} {kp : Nat → Nat} {D : Nat → Int32} (hc : c ≤ 24) (hs : fs 1 = nI c) (hk : ∀ j, j < c → fk (100 + j) = nI (kp j) ∧ kp j < 15) (hd : ∀ j, j < c → fd (100 + j) = D j) : ∀ (k j : Nat) (o : Bool), j ≤ c → c - j < k → f_X9_isBegin_42 n k fd fk fs (nI i) (b2i o) (nI (100 + j)) = some (b2i (o || tgF kp D i (c - j) j)) := by
  intro k
  induction k with
  | zero => intro j o h1 h2; omega
  | succ k ih =>
    intro j o hj hkk
    rw [f_X9_isBegin_42, show (1 : Int32) = nI 1 from pn_1, pn_gd (by omega) (by omega), nI_clamp (show 1 < 2 ^ 31 by omega), hs, pn_h]
    by_cases e : j = c
    · subst e
      rw [if_pos (nI_le (Nat.le_refl _) (by omega)), Nat.sub_self, gb_in (b2i_01 _)]
      simp [tgF]
    · have hlt : j < c := by omega
      have hsub : c - j = (c - (j + 1)) + 1 := by omega
      have g : ∀ {α : Type} {x : Option α}, gd (nI (100 + j)) 400 x = x := pn_gd (by omega) (by omega)
      rw [if_neg (nI_ge (by omega) (by omega)), hsub, ← pn_1]
      simp only [g, pn_s]
      rw [nI_clamp (show 100 + j < 2 ^ 31 by omega), (hk j hlt).1, m_goes _ (hk j hlt).2, hd j hlt]
      simp only [Option.bind_some]
      show _ = some (b2i (o || ((goK (kp j) && decide (D j = nI i)) || tgF kp D i (c - (j + 1)) (j + 1))))
      have h0 : f_X9_isBegin_42 n k fd fk fs (nI i) 0 (nI (100 + j + 1)) = _ := ih (j + 1) false (by omega) (by omega)
      have h1 : f_X9_isBegin_42 n k fd fk fs (nI i) 1 (nI (100 + j + 1)) = _ := ih (j + 1) true (by omega) (by omega)
      rw [h0, h1]
      cases o with
      | true => rfl
      | false =>
        rw [if_pos (show b2i false = 0 by decide)]
        cases e1 : goK (kp j) with
        | false => rw [if_pos (show b2i false = 0 by decide)]; simp
        | true =>
          rw [if_neg (show ¬ b2i true = 0 by decide)]
          by_cases e2 : D j = nI i
          · rw [if_pos e2, decide_eq_true e2]; rfl
          · rw [if_neg e2, decide_eq_false e2]; simp
theorem m_isBegin {n c i : Nat} (hn : c < n) {fd fk fs : Nat → Int32} {kp : Nat → Nat} {D : Nat → Int32} (hc : c ≤ 24) (hi : i < c) (hs : fs 1 = nI c) (hk : ∀ j, j < c → fk (100 + j) = nI (kp j) ∧ kp j < 15) (hd : ∀ j, j < c → fd (100 + j) = D j) : f_X9_isBegin n fd fk fs (nI i) = some (b2i (bgF kp D c i)) := by
  unfold f_X9_isBegin bgF
  have h0 : f_X9_isBegin_42 n n fd fk fs (nI i) 0 100 = _ := m_isBegin42 n (i := i) hc hs hk hd n 0 false (by omega) (by omega)
  have h1 : f_X9_isBegin_42 n n fd fk fs (nI i) 1 100 = _ := m_isBegin42 n (i := i) hc hs hk hd n 0 true (by omega) (by omega)
  rw [h0, h1]
  by_cases z : i = 0
  · subst z; rw [if_pos (show nI 0 = 0 by decide)]; simp
  · have hz : (i == 0) = false := by simp [z]
    have e1 : (99 : Int32) + nI i = nI (100 + (i - 1)) := by rw [pn_99]; congr 1; omega
    have hp := hk (i - 1) (by omega)
    have g : ∀ {α : Type} {x : Option α}, gd (nI (100 + (i - 1))) 400 x = x := pn_gd (by omega) (by omega)
    rw [if_neg (nI_ne0 (by omega) (by omega)), e1, hz]
    simp only [g]
    rw [nI_clamp (by omega), hp.1, m_goes _ hp.2]
    simp only [Option.bind_some, ki12 hp.2]
    cases goK (kp (i - 1)) with
    | true => rw [if_neg (show ¬ b2i true = 0 by decide)]; simp
    | false =>
      rw [if_pos (show b2i false = 0 by decide)]
      by_cases y : kp (i - 1) = 12
      · rw [if_pos y]; simp [y]
      · have hy : (kp (i - 1) == 12) = false := by simp [y]
        rw [if_neg y, hy]; simp
theorem shK_go {s : HV} {c k : Nat} {d a b : Int32} (w : WI c k d a b) : goK (shK s k d a b) = goK k ∧ (goK k = true → shD s k d a b = d) ∧ ((shK s k d a b == 12) = (k == 12)) := by
  have hk : k < 15 := by have := w.1; omega
  have gw := go_wr k hk
  have rw12 : wrK 12 = false := by decide
  unfold shK shD
  cases ew : wrK k with
  | false =>
    have eh : had s k d a b = false := by unfold had; rw [ew]; rfl
    rw [eh]
    simp
  | true =>
    have hg : goK k = false := by
      cases e : goK k with
      | false => rfl
      | true => rw [gw e] at ew; cases ew
    have h12 : (k == 12) = false := by
      have : ¬ k = 12 := fun t => by rw [t, rw12] at ew; cases ew
      simp [this]
    refine ⟨?_, (fun t => by rw [hg] at t; cases t), ?_⟩
    · split
      · rw [hg]; decide
      · split
        · rw [hg]; decide
        · rfl
    · split
      · rw [h12]; decide
      · split
        · rw [h12]; decide
        · rfl
theorem s00_ok : HOK s00 := ⟨fun r hr => hr, fun k x y v h => by cases h⟩
theorem shS_ok {c : Nat} {kp : Nat → Nat} {D A B : Nat → Int32} (w : WP c kp D A B) : ∀ i, i ≤ c → HOK (shS kp D A B c i) ∧ (shS kp D A B c i).2.1 ≤ 8 + i
  | 0, _ => ⟨s00_ok, Nat.le_refl _⟩
  | i + 1, h => by
    have ih := shS_ok w i (by omega)
    have hI : HOK (shI kp D A B c i) ∧ (shI kp D A B c i).2.1 ≤ 8 + i := by
      by_cases z : bgF kp D c i = true
      · rw [shI, if_pos z]; exact ⟨s00_ok, by show 8 ≤ _; omega⟩
      · rw [shI, if_neg z]; exact ih
    have := shN_ok (s := shI kp D A B c i) (w i (by omega)) hI.1
    exact ⟨this.1, by have h1 := this.2; have h2 := hI.2; show (shN (shI kp D A B c i) _ _ _ _).2.1 ≤ _; omega⟩
section SHL
variable {n L c : Nat} {kp : Nat → Nat} {fa fb fd fk fs ga gb gd9 gk : Nat → Int32}
theorem mut_k (f : Nat → Nat) (g : Nat → Int32) (kp : Nat → Nat) (hg : ∀ j, j < c → g j = nI (kp j)) {i : Nat} : ∀ j, j < c → va_cpy (fun x => nI (f x)) g 0 0 i j = nI (if j < i then f j else kp j) := fun j hj => by
  by_cases z : j < i
  · rw [pk_cpy_in (by omega) (by omega), if_pos z]
    show nI (f (0 + (j - 0))) = _
    rw [show 0 + (j - 0) = j by omega]
  · rw [pk_cpy_out (by omega), if_neg z]; exact hg j hj
theorem mut_k1 (f : Nat → Nat) (g : Nat → Int32) (kp : Nat → Nat) (hg : ∀ j, j < c → g (100 + j) = nI (kp j)) {i : Nat} : ∀ j, j < c → va_cpy (fun x => nI (f x)) g 0 100 i (100 + j) = nI (if j < i then f j else kp j) := fun j hj => by
  by_cases z : j < i
  · rw [pk_cpy_in (by omega) (by omega), if_pos z]
    show nI (f (0 + (100 + j - 100))) = _
    rw [show 0 + (100 + j - 100) = j by omega]
  · rw [pk_cpy_out (by omega), if_neg z]; exact hg j hj
theorem mut_d (f g : Nat → Int32) {i : Nat} (j : Nat) : va_cpy f g 0 0 i j = if j < i then f j else g j := by
  by_cases z : j < i
  · rw [pk_cpy_in (by omega) (by omega), if_pos z, show 0 + (j - 0) = j by omega]
  · rw [pk_cpy_out (by omega), if_neg z]
theorem mut_d1 (f g h : Nat → Int32) (hg : ∀ j, j < c → g (100 + j) = h j) {i : Nat} : ∀ j, j < c → va_cpy f g 0 100 i (100 + j) = if j < i then f j else h j := fun j hj => by
  by_cases z : j < i
  · rw [pk_cpy_in (by omega) (by omega), if_pos z, show 0 + (100 + j - 100) = j by omega]
  · rw [pk_cpy_out (by omega), if_neg z]; exact hg j hj
/-- blocks are the same in the program that is half changed -/
theorem bg_mut (w : WP c kp fd fa fb) {i x : Nat} (hx : x < c) : bgF (fun j => if j < i then sK' kp fd fa fb c j else kp j) (fun j => if j < i then sD' kp fd fa fb c j else fd j) c x = bgF kp fd c x := by
  have hgo : ∀ j, j < c → goK (if j < i then sK' kp fd fa fb c j else kp j) = goK (kp j) ∧ (goK (kp j) = true → (if j < i then sD' kp fd fa fb c j else fd j) = fd j) ∧ (((if j < i then sK' kp fd fa fb c j else kp j) == 12) = (kp j == 12)) := fun j hj => by
    by_cases z : j < i
    · rw [if_pos z, if_pos z]; exact shK_go (w j hj)
    · rw [if_neg z, if_neg z]; exact ⟨rfl, fun _ => rfl, rfl⟩
  unfold bgF
  rw [tgF_cong (kp := kp) (D := fd) c 0 (fun y _ hy => ?_)]
  · rw [(hgo (x - 1) (by omega)).1, (hgo (x - 1) (by omega)).2.2]
  · have := hgo y (by omega)
    rw [this.1]
    cases e : goK (kp y) with
    | false => rfl
    | true => rw [this.2.1 e]
theorem s_forget2 (n : Nat) (v w : Int32) : ∀ (k j : Nat) {h : Nat → Int32}, j ≤ 8 → 8 - j < k → (∀ r, r < j → h r = nI r) → ∃ h', f_X7_forgetAll_2 n k h v w (nI j) = some (h', 0, 8) ∧ ∀ r, r < 8 → h' r = nI r := by
  intro k
  induction k with
  | zero => intro j h h1 h2; omega
  | succ k ih =>
    intro j h hj hk hr
    rw [f_X7_forgetAll_2]
    by_cases e : j = 8
    · rw [if_pos ((le8 (by omega)).mpr (by omega))]
      exact ⟨_, rfl, fun r h8 => hr r (by omega)⟩
    · have hlt : j < 8 := by omega
      rw [if_neg (fun z => e (by have := (le8 (by omega)).mp z; omega)), pn_gd hlt (by omega), nI_clamp (by omega), pn_s]
      refine ih (j + 1) (by omega) (by omega) (fun r hr2 => ?_)
      by_cases z : r = j
      · rw [z, upd_s]
      · rw [upd_n _ z]; exact hr r (by omega)
theorem s_share4 (hn : 24 < n) (hc : c ≤ 24) (hL : c ≤ L) (hLL : L < 2 ^ 31) (hf : ∀ i, i < c → fk i = nI (kp i)) (w : WP c kp fd fa fb) : ∀ (k i : Nat) {eK eV eX eY held : Nat → Int32} {v u : Int32}, i ≤ c → c - i < k →
    (i = 0 ∨ ∃ m, m ≤ i ∧ v = nI m ∧ u = nI (shS kp fd fa fb c i).2.1 ∧ SC (shS kp fd fa fb c i) held eK eV eX eY m) →
    ∃ eK' eV' eX' eY' held' v' u', f_X7_share_4 n k L eK eV eX eY held (va_cpy (sA' kp fd fa fb c) fa 0 0 i) (va_cpy (sB' kp fd fa fb c) fb 0 0 i) (va_cpy (sD' kp fd fa fb c) fd 0 0 i) (va_cpy (fun x => nI (sK' kp fd fa fb c x)) fk 0 0 i) v u (nI c) (nI (cnN (sC' kp fd fa fb c) i)) (nI i)
      = some (nI (cnN (sC' kp fd fa fb c) c), eK', eV', eX', eY', held', va_cpy (sA' kp fd fa fb c) fa 0 0 c, va_cpy (sB' kp fd fa fb c) fb 0 0 c, va_cpy (sD' kp fd fa fb c) fd 0 0 c, va_cpy (fun x => nI (sK' kp fd fa fb c x)) fk 0 0 c, v', u') := by
  intro k
  induction k with
  | zero => intro i eK eV eX eY held v u h1 h2; omega
  | succ k ih =>
    intro i eK eV eX eY held v u hi hk hst
    rw [f_X7_share_4]
    by_cases e : i = c
    · subst e
      rw [if_pos (nI_le (Nat.le_refl _) (by omega))]
      exact ⟨_, _, _, _, _, _, _, rfl⟩
    · have hlt : i < c := by omega
      have hbg : f_X7_beginsBlock n L (va_cpy (sD' kp fd fa fb c) fd 0 0 i) (va_cpy (fun x => nI (sK' kp fd fa fb c x)) fk 0 0 i) (nI c) (nI i) = some (b2i (bgF kp fd c i)) := by
        rw [s_begins (kp := fun j => if j < i then sK' kp fd fa fb c j else kp j) (by omega) hc hlt hL hLL (fun j hj => ⟨mut_k _ _ kp hf j hj, ?_⟩)]
        · rw [show va_cpy (sD' kp fd fa fb c) fd 0 0 i = (fun j => if j < i then sD' kp fd fa fb c j else fd j) from funext (fun j => mut_d _ _ j), bg_mut w hlt]
        · have hkj : kp j < 15 := by have := (w j hj).1; omega
          show (if j < i then sK' kp fd fa fb c j else kp j) < 15
          split
          · exact shK_lt hkj
          · exact hkj
      rw [if_neg (nI_ge hlt (by omega)), hbg]
      simp only [Option.bind_some]
      -- one instruction, from the state shI
      have one : ∀ {eK eV eX eY held : Nat → Int32} {m : Nat}, m ≤ i → SC (shI kp fd fa fb c i) held eK eV eX eY m →
          ∃ eK' eV' eX' eY' held' v' u', f_X7_share_25 n (fun f0_entryKind' f0_entryValue' f0_entryX' f0_entryY' f0_held' f1_a' f1_b' f1_d' f1_kind' v0_entries' v0_nextValue' x2' x3' => f_X7_share_4 n k L f0_entryKind' f0_entryValue' f0_entryX' f0_entryY' f0_held' f1_a' f1_b' f1_d' f1_kind' v0_entries' v0_nextValue' (nI c) x2' x3') L eK eV eX eY held (va_cpy (sA' kp fd fa fb c) fa 0 0 i) (va_cpy (sB' kp fd fa fb c) fb 0 0 i) (va_cpy (sD' kp fd fa fb c) fd 0 0 i) (va_cpy (fun x => nI (sK' kp fd fa fb c x)) fk 0 0 i) (nI m) (nI (shI kp fd fa fb c i).2.1) (nI c) (nI (cnN (sC' kp fd fa fb c) i)) (nI i)
            = some (nI (cnN (sC' kp fd fa fb c) c), eK', eV', eX', eY', held', va_cpy (sA' kp fd fa fb c) fa 0 0 c, va_cpy (sB' kp fd fa fb c) fb 0 0 c, va_cpy (sD' kp fd fa fb c) fd 0 0 c, va_cpy (fun x => nI (sK' kp fd fa fb c x)) fk 0 0 c, v', u') := by
        intro eK eV eX eY held m hm hSC
        have hnv : (shI kp fd fa fb c i).2.1 < 1000 := by
          have := shS_ok w i (by omega)
          by_cases z : bgF kp fd c i = true
          · rw [shI, if_pos z]; show 8 < 1000; omega
          · rw [shI, if_neg z]; omega
        obtain ⟨eK', eV', eX', eY', held', m', h1, h2, h3⟩ := s_shareOne (n := n) (L := L) (s := shI kp fd fa fb c i) (fa := va_cpy (sA' kp fd fa fb c) fa 0 0 i) (fb := va_cpy (sB' kp fd fa fb c) fb 0 0 i) (fd := va_cpy (sD' kp fd fa fb c) fd 0 0 i) (fk := va_cpy (fun x => nI (sK' kp fd fa fb c x)) fk 0 0 i) (k := kp i) (i := i) hn (by omega) hLL (by rw [cpy_at0]; exact hf i hlt) (by rw [cpy_at0, cpy_at0, cpy_at0]; exact w i hlt) hSC (by omega) hnv
        rw [cpy_at0, cpy_at0, cpy_at0] at h1 h2
        have ea := cpy_n0 (sA' kp fd fa fb c) fa i
        have eb := cpy_n0 (sB' kp fd fa fb c) fb i
        have ed := cpy_n0 (sD' kp fd fa fb c) fd i
        have ek := cpy_n0 (fun x => nI (sK' kp fd fa fb c x)) fk i
        have h1' : f_X7_shareOne n L eK eV eX eY held (va_cpy (sA' kp fd fa fb c) fa 0 0 i) (va_cpy (sB' kp fd fa fb c) fb 0 0 i) (va_cpy (sD' kp fd fa fb c) fd 0 0 i) (va_cpy (fun x => nI (sK' kp fd fa fb c x)) fk 0 0 i) (nI m) (nI (shI kp fd fa fb c i).2.1) (nI i) = some (b2i (sC' kp fd fa fb c i), eK', eV', eX', eY', held', va_cpy (sA' kp fd fa fb c) fa 0 0 (i + 1), va_cpy (sB' kp fd fa fb c) fb 0 0 (i + 1), va_cpy (sD' kp fd fa fb c) fd 0 0 (i + 1), va_cpy (fun x => nI (sK' kp fd fa fb c x)) fk 0 0 (i + 1), nI m', nI (shS kp fd fa fb c (i + 1)).2.1) := by
          rw [← ea, ← eb, ← ed, ← ek]
          exact h1
        unfold f_X7_share_25
        rw [h1']
        simp only [Option.bind_some, pn_s]
        have hih := ih (i + 1) (v := nI m') (u := nI (shS kp fd fa fb c (i + 1)).2.1) (by omega) (by omega) (Or.inr ⟨m', by omega, rfl, rfl, h2⟩)
        cases e2 : sC' kp fd fa fb c i with
        | false =>
          rw [if_pos (show b2i false = 0 by decide)]
          have : cnN (sC' kp fd fa fb c) (i + 1) = cnN (sC' kp fd fa fb c) i := by show cnN _ i + (if sC' kp fd fa fb c i = true then 1 else 0) = _; rw [e2]; rfl
          rw [this] at hih
          exact hih
        | true =>
          rw [if_neg (show ¬ b2i true = 0 by decide)]
          have : cnN (sC' kp fd fa fb c) (i + 1) = cnN (sC' kp fd fa fb c) i + 1 := by show cnN _ i + (if sC' kp fd fa fb c i = true then 1 else 0) = _; rw [e2]; rfl
          rw [this] at hih
          exact hih
      cases eb : bgF kp fd c i with
      | true =>
        rw [if_neg (show ¬ b2i true = 0 by decide)]
        obtain ⟨h', g1, g2⟩ := s_forget2 n v u n 0 (h := held) (by omega) (by omega) (fun r hr => by omega)
        have g1 : f_X7_forgetAll n held v u = some (h', 0, 8) := g1
        rw [g1]
        simp only [Option.bind_some]
        have eI : shI kp fd fa fb c i = s00 := by rw [shI, if_pos eb]
        have := one (eK := eK) (eV := eV) (eX := eX) (eY := eY) (held := h') (m := 0) (by omega) (by rw [eI]; exact ⟨s00_ok, g2, (fun k x y v h => by cases h), (fun e he => by omega)⟩)
        rw [eI] at this
        exact this
      | false =>
        rw [if_pos (show b2i false = 0 by decide)]
        rcases hst with h0 | ⟨m, hm, h1, h2, h3⟩
        · rw [h0] at eb
          cases eb
        · have eI : shI kp fd fa fb c i = shS kp fd fa fb c i := by rw [shI, if_neg (by rw [eb]; decide)]
          rw [h1, h2, ← eI]
          exact one hm (by rw [eI]; exact h3)
theorem s_share (hn : 24 < n) (hc : c ≤ 24) (hL : c ≤ L) (hLL : L < 2 ^ 31) (hf : ∀ i, i < c → fk i = nI (kp i)) (w : WP c kp fd fa fb) {eK eV eX eY held : Nat → Int32} {v u : Int32} :
    ∃ eK' eV' eX' eY' held' v' u', f_X7_share n L eK eV eX eY held fa fb fd fk v u (nI c) = some (nI (cnN (sC' kp fd fa fb c) c), eK', eV', eX', eY', held', va_cpy (sA' kp fd fa fb c) fa 0 0 c, va_cpy (sB' kp fd fa fb c) fb 0 0 c, va_cpy (sD' kp fd fa fb c) fd 0 0 c, va_cpy (fun x => nI (sK' kp fd fa fb c x)) fk 0 0 c, v', u') := by
  have := s_share4 hn hc hL hLL hf w n 0 (eK := eK) (eV := eV) (eX := eX) (eY := eY) (held := held) (v := v) (u := u) (by omega) (by omega) (Or.inl rfl)
  rw [cpy_0, cpy_0, cpy_0, cpy_0] at this
  exact this
end SHL
