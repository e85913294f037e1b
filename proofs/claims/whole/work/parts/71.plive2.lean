section LC2
variable {n L c : Nat} {kp : Nat → Nat} {fa fb fd fk : Nat → Int32}
def ml (p : Nat → Nat → Bool) : Nat := smN (fun i => smN (fun r => if p i r = true then 0 else 1) 8) 24
theorem ml_bd (p : Nat → Nat → Bool) : ml p ≤ 192 := smN_bd (b := 8) 24 (fun i _ => smN_bd (b := 1) 8 (fun r _ => by split <;> omega))
def lvU (kp : Nat → Nat) (D A B : Nat → Int32) (p : Nat → Nat → Bool) (i : Nat) : Nat → Nat → Bool := fun j r => if j = i then lvF kp D A B p i r else p j r
def Snd (kp : Nat → Nat) (D A B : Nat → Int32) (c : Nat) (p : Nat → Nat → Bool) : Prop := ∀ i r, r < 8 → p i r = true → LiveP kp D A B c i r
def Prf (kp : Nat → Nat) (D A B : Nat → Int32) (c : Nat) (p : Nat → Nat → Bool) : Prop := ∀ i r, i < c → r < 8 → p i r = true → lvF kp D A B p i r = true
theorem lvU_ge {p : Nat → Nat → Bool} {i : Nat} (hi : i < c) (h : Prf kp fd fa fb c p) {j r : Nat} (hr : r < 8) (hj : p j r = true) : lvU kp fd fa fb p i j r = true := by
  unfold lvU
  by_cases z : j = i
  · rw [if_pos z]
    rw [z] at hj
    exact h i r hi hr hj
  · rw [if_neg z]; exact hj
theorem lvU_ok {p : Nat → Nat → Bool} {i : Nat} (hi : i < c) (hS : Snd kp fd fa fb c p) (h : Prf kp fd fa fb c p) : Snd kp fd fa fb c (lvU kp fd fa fb p i) ∧ Prf kp fd fa fb c (lvU kp fd fa fb p i) := by
  constructor
  · intro j r hr hj
    unfold lvU at hj
    by_cases z : j = i
    · rw [if_pos z] at hj
      rw [z]
      exact live_step hi (fun j hj => hS j r hr hj) hj
    · rw [if_neg z] at hj
      exact hS j r hr hj
  · intro j r hj hr hp
    have ge : ∀ x, p x r = true → lvU kp fd fa fb p i x r = true := fun x hx => lvU_ge hi h hr hx
    refine lvF_mono (p := p) ge ?_
    unfold lvU at hp
    by_cases z : j = i
    · rw [if_pos z] at hp; rw [z]; exact hp
    · rw [if_neg z] at hp; exact h j r hj hr hp
theorem lvU_ml {p : Nat → Nat → Bool} {i : Nat} (hi : i < c) (hc : c ≤ 24) (h : Prf kp fd fa fb c p) (hne : ¬ ∀ r, r < 8 → lvF kp fd fa fb p i r = p i r) : ml (lvU kp fd fa fb p i) < ml p := by
  have ex : ∃ r, r < 8 ∧ p i r = false ∧ lvF kp fd fa fb p i r = true := by
    refine Classical.byContradiction (fun hn => hne (fun r hr => ?_))
    cases e1 : lvF kp fd fa fb p i r with
    | true =>
      cases e2 : p i r with
      | true => rfl
      | false => exact absurd ⟨r, hr, e2, e1⟩ hn
    | false =>
      cases e2 : p i r with
      | false => rfl
      | true => have := h i r hi hr e2; rw [e1] at this; cases this
  obtain ⟨r, hr, e1, e2⟩ := ex
  have le : ∀ j x, x < 8 → (if lvU kp fd fa fb p i j x = true then 0 else 1) ≤ (if p j x = true then 0 else 1) := fun j x hx => by
    cases e : p j x with
    | true => rw [lvU_ge hi h hx e]; exact Nat.le_refl _
    | false =>
      rw [if_neg (show ¬ false = true by decide)]
      split
      · exact Nat.zero_le _
      · exact Nat.le_refl _
  refine smN_lt 24 (j := i) (fun j _ => smN_le 8 (fun x hx => le j x hx)) (by omega) ?_
  refine smN_lt 8 (j := r) (fun x hx => le i x hx) hr ?_
  have : lvU kp fd fa fb p i i r = true := by unfold lvU; rw [if_pos rfl]; exact e2
  rw [this, e1]
  decide
theorem i_m1 (x : Int32) : x + (-1 : Int32) = x - 1 := by
  rw [Int32.sub_eq_add_neg]
theorem s_sweep9 (hc : c ≤ 24) (hL : c ≤ L) (hLL : L < 2 ^ 31) (hf : ∀ i, i < c → fk i = nI (kp i)) (w : WP c kp fd fa fb) (p0 : Nat → Nat → Bool) : ∀ (k m : Nat) {bf : Nat → Int32} {p : Nat → Nat → Bool} {x2 : Int32}, m ≤ c → m < k → RelL c p bf → Snd kp fd fa fb c p → Prf kp fd fa fb c p →
    ((x2 = 0 ∧ p = p0 ∧ ∀ i, m ≤ i → i < c → ∀ r, r < 8 → lvF kp fd fa fb p0 i r = p0 i r) ∨ (x2 = 1 ∧ ml p < ml p0)) →
    ∃ x bf' p', f_X3_sweep_9 n k L bf fa fb fd fk (nI c) x2 (nI m - 1) = some (x, bf') ∧ RelL c p' bf' ∧ Snd kp fd fa fb c p' ∧ Prf kp fd fa fb c p' ∧
    ((x = 0 ∧ p' = p0 ∧ ∀ i, i < c → ∀ r, r < 8 → lvF kp fd fa fb p0 i r = p0 i r) ∨ (x = 1 ∧ ml p' < ml p0)) := by
  intro k
  induction k with
  | zero => intro m bf p x2 h1 h2; omega
  | succ k ih =>
    intro m bf p x2 hm hk hR hS hP hx
    rw [f_X3_sweep_9]
    have hx01 : x2 = 0 ∨ x2 = 1 := by
      rcases hx with h | h
      · exact Or.inl h.1
      · exact Or.inr h.1
    cases m with
    | zero =>
      rw [if_pos (show nI 0 - 1 < 0 by decide), gb_in hx01]
      refine ⟨x2, bf, p, rfl, hR, hS, hP, ?_⟩
      rcases hx with h | h
      · exact Or.inl ⟨h.1, h.2.1, fun i hi => h.2.2 i (by omega) hi⟩
      · exact Or.inr h
    | succ m =>
      have hlt : m < c := by omega
      obtain ⟨y, h1, h2⟩ := s_liveBefore hc hlt hL hLL (hf m hlt) (w m hlt) hR
      rw [pn_p, if_neg (nI_pos (by omega)), h1]
      simp only [Option.bind_some]
      unfold f_X3_sweep_41
      have g : ∀ {α : Type} {x : Option α}, gd (nI m) 24 x = x := pn_gd (by omega) (by omega)
      simp only [g, i_m1]
      rw [nI_clamp (by omega)]
      have hbits := bs_inj h2 (hR.1 m hlt)
      -- the bits stay
      have stay : (∀ r, r < 8 → lvF kp fd fa fb p m r = p m r) → RelL c p (upd bf m y) := fun he => by
        refine ⟨fun i hi => ?_, hR.2⟩
        by_cases z : i = m
        · rw [z, upd_s]; exact bs_cong h2 he
        · rw [upd_n _ z]; exact hR.1 i hi
      have move : RelL c (lvU kp fd fa fb p m) (upd bf m y) := by
        refine ⟨fun i hi => ?_, fun i r hi => ?_⟩
        · by_cases z : i = m
          · rw [z, upd_s]
            refine bs_cong h2 (fun r hr => ?_)
            unfold lvU; rw [if_pos rfl]
          · rw [upd_n _ z]
            refine bs_cong (hR.1 i hi) (fun r hr => ?_)
            unfold lvU; rw [if_neg z]
        · unfold lvU; rw [if_neg (by omega)]; exact hR.2 i r hi
      obtain ⟨oS, oP⟩ := lvU_ok hlt hS hP
      rcases hx with ⟨hx0, hp0, hfix⟩ | ⟨hx1, hml⟩
      · rw [if_pos hx0]
        by_cases z : y = bf m
        · have he := hbits.mp z
          rw [if_pos z]
          refine ih m (p := p) (by omega) (by omega) (stay he) hS hP (Or.inl ⟨rfl, hp0, fun i hi hic r hr => ?_⟩)
          by_cases e : i = m
          · rw [e, ← hp0]; exact he r hr
          · exact hfix i (by omega) hic r hr
        · rw [if_neg z]
          refine ih m (p := lvU kp fd fa fb p m) (by omega) (by omega) move oS oP (Or.inr ⟨rfl, ?_⟩)
          rw [← hp0]
          exact lvU_ml hlt hc hP (fun he => z (hbits.mpr he))
      · rw [if_neg (by rw [hx1]; decide)]
        by_cases z : y = bf m
        · exact ih m (p := p) (by omega) (by omega) (stay (hbits.mp z)) hS hP (Or.inr ⟨rfl, hml⟩)
        · refine ih m (p := lvU kp fd fa fb p m) (by omega) (by omega) move oS oP (Or.inr ⟨rfl, ?_⟩)
          have := lvU_ml hlt hc hP (fun he => z (hbits.mpr he))
          omega
theorem s_find12 (hn : 200 < n) (hc : c ≤ 24) (hL : c ≤ L) (hLL : L < 2 ^ 31) (hf : ∀ i, i < c → fk i = nI (kp i)) (w : WP c kp fd fa fb) : ∀ (m : Nat) {p : Nat → Nat → Bool} {bf : Nat → Int32} (k rr : Nat), ml p = m → m + 2 < k → rr + m + 2 < 1000 → RelL c p bf → Snd kp fd fa fb c p → Prf kp fd fa fb c p →
    ∃ bf' p', f_X3_find_12 n k L bf fa fb fd fk (nI c) 1 (nI rr) = some bf' ∧ RelL c p' bf' ∧ Snd kp fd fa fb c p' ∧ ∀ i, i < c → ∀ r, r < 8 → lvF kp fd fa fb p' i r = p' i r := by
  intro m
  induction m using Nat.strongRecOn with
  | _ m ih =>
    intro p bf k rr hm hk hr hR hS hP
    obtain ⟨k, rfl⟩ : ∃ k', k = k' + 1 := ⟨k - 1, by omega⟩
    rw [f_X3_find_12, if_neg (show ¬ (1 : Int32) = 0 by decide), if_neg (fun z => by have := (le1000 (by omega)).mp z; omega)]
    obtain ⟨x, bf', p', h1, h2, h3, h4, h5⟩ := s_sweep9 (n := n) hc hL hLL hf w p n c (bf := bf) (p := p) (x2 := 0) (by omega) (by omega) hR hS hP (Or.inl ⟨rfl, rfl, fun i hi hic => by omega⟩)
    have h1 : f_X3_sweep n L bf fa fb fd fk (nI c) = some (x, bf') := h1
    rw [h1]
    simp only [Option.bind_some]
    rcases h5 with h | h
    · obtain ⟨k, rfl⟩ : ∃ k', k = k' + 1 := ⟨k - 1, by omega⟩
      rw [f_X3_find_12, if_pos h.1]
      exact ⟨bf', p', rfl, h2, h3, by rw [h.2.1]; exact h.2.2⟩
    · rw [h.1, pn_s]
      exact ih (ml p') (by omega) k (rr + 1) rfl (by omega) (by omega) h2 h3 h4
theorem s_find (hn : 200 < n) (hc : c ≤ 24) (hL : c ≤ L) (hLL : L < 2 ^ 31) (hf : ∀ i, i < c → fk i = nI (kp i)) (w : WP c kp fd fa fb) (bf : Nat → Int32) :
    ∃ bf' p, f_X3_find n L bf fa fb fd fk (nI c) = some bf' ∧ RelL c p bf' ∧ LvS kp fd fa fb c p := by
  unfold f_X3_find
  obtain ⟨g, hg, hg2⟩ := s_fill n (Ln := 24) (by omega) 0 n 0 bf (by omega) (by omega) (fun i hi => by omega)
  have hg' : f_J7_fill_53178 n 24 bf 0 = some g := hg
  rw [hg']
  simp only [Option.bind_some]
  have hmu := ml_bd (fun _ _ => false)
  obtain ⟨bf', p', h1, h2, h3, h4⟩ := s_find12 hn hc hL hLL hf w (ml (fun _ _ => false)) (p := fun _ _ => false) (bf := g) n 0 rfl (by omega) (by omega) ⟨fun i hi => by rw [hg2 i (by omega)]; exact bs_0, fun i r _ => rfl⟩ (fun i r _ h => by cases h) (fun i r _ _ h => by cases h)
  refine ⟨bf', p', h1, h2, fun i r hr => ⟨h3 i r hr, fun ⟨m, hm⟩ => live_fix (fun j hj hl => by rw [← h4 j hj r hr]; exact hl) m i hm⟩⟩
end LC2
