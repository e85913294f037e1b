/-! LIVENESS: the reference's search. -/
section LM
variable {n c r t0 : Nat} {kp : Nat → Nat} {D A B ga gb gd9 gk fs : Nat → Int32}
theorem m_reads {i : Nat} (hi : i < 24) (hr : r < 8) (hk : gk (100 + i) = nI (kp i)) (hkk : kp i ≤ 12) (ha : ga (100 + i) = A i) (hb : gb (100 + i) = B i) : f_X9_reads ga gb gk (nI i) (nI r) = some (b2i (rdB (kp i) (A i) (B i) r)) := by
  have g : ∀ {α : Type} {x : Option α}, gd (nI (100 + i)) 400 x = x := pn_gd (by omega) (by omega)
  have n14 : (kp i == 14) = false := by simp; omega
  have e30 : f_X9_reads_30 ga gb gk (nI i) (nI r) (nI (kp i)) = some (b2i (rbK (kp i) && decide (B i = nI r))) := by
    unfold f_X9_reads_30
    rw [m_readsB _ (by omega), pn_h]
    simp only [Option.bind_some, g]
    rw [nI_clamp (by omega), hb]
    cases rbK (kp i) with
    | false => rfl
    | true =>
      rw [if_neg (show ¬ b2i true = 0 by decide)]
      by_cases z : B i = nI r
      · rw [if_pos z, decide_eq_true z]; rfl
      · rw [if_neg z, decide_eq_false z]; rfl
  unfold f_X9_reads rdB
  rw [pn_h]
  simp only [g]
  rw [nI_clamp (by omega), hk, e30, m_readsA _ (by omega), n14, Bool.or_false, ha]
  simp only [Option.bind_some]
  cases raK (kp i) with
  | false => rw [if_pos (show b2i false = 0 by decide)]; simp
  | true =>
    rw [if_neg (show ¬ b2i true = 0 by decide)]
    by_cases z : A i = nI r
    · rw [if_pos z, decide_eq_true z]; rfl
    · rw [if_neg z, decide_eq_false z]; simp
def LRel (se dn : Nat → Int32) (Se Dn : Nat → Bool) : Prop := ∀ i, i < 26 → se i = b2i (Se i) ∧ dn i = b2i (Dn i)
def LInv (kp : Nat → Nat) (D A B : Nat → Int32) (c r t0 : Nat) (Se Dn : Nat → Bool) : Prop :=
  Se t0 = true ∧ (∀ i, Se i = true → LiveP kp D A B c i r → LiveP kp D A B c t0 r) ∧
  ∀ i, i < c → Dn i = true → rdB (kp i) (A i) (B i) r = false ∧ (wrB (kp i) (D i) r = false → (faK (kp i) = true → Se (i + 1) = true) ∧ (goK (kp i) = true → Se (nN (D i)) = true))
def dnM (c : Nat) (Dn : Nat → Bool) : Nat := smN (fun i => if Dn i = true then 0 else 1) c
def updB (f : Nat → Bool) (i : Nat) (b : Bool) : Nat → Bool := fun j => if j = i then b else f j
theorem dnM_upd {Dn : Nat → Bool} {i : Nat} (hi : i < c) (h : Dn i = false) : dnM c (updB Dn i true) < dnM c Dn := by
  refine smN_lt c (j := i) (fun j _ => ?_) hi ?_
  · show (if (if j = i then true else Dn j) = true then 0 else 1) ≤ _
    by_cases z : j = i
    · rw [if_pos z]; exact Nat.zero_le _
    · rw [if_neg z]; exact Nat.le_refl _
  · show (if (if i = i then true else Dn i) = true then 0 else 1) < _
    rw [if_pos rfl, h]; decide
theorem rel_upd {se dn : Nat → Int32} {Se Dn : Nat → Bool} {i : Nat} (h : LRel se dn Se Dn) : LRel se (upd dn i 1) Se (updB Dn i true) := fun j hj => by
  refine ⟨(h j hj).1, ?_⟩
  unfold updB
  by_cases z : j = i
  · rw [z, upd_s, if_pos rfl]; rfl
  · rw [upd_n _ z, if_neg z]; exact (h j hj).2
theorem rel_seen {se dn : Nat → Int32} {Se Dn : Nat → Bool} {i : Nat} (b : Bool) (h : LRel se dn Se Dn) : LRel (upd se i (b2i b)) dn (updB Se i b) Dn := fun j hj => by
  refine ⟨?_, (h j hj).2⟩
  unfold updB
  by_cases z : j = i
  · rw [z, upd_s, if_pos rfl]
  · rw [upd_n _ z, if_neg z]; exact (h j hj).1
theorem updB_t {f : Nat → Bool} {i j : Nat} (h : f j = true) : updB f i true j = true := by
  unfold updB
  by_cases z : j = i
  · rw [if_pos z]
  · rw [if_neg z]; exact h
theorem updB_or {f : Nat → Bool} {i j : Nat} (b : Bool) (h : f j = true) : updB f i (f i || b) j = true := by
  unfold updB
  by_cases z : j = i
  · rw [if_pos z, ← z, h]; rfl
  · rw [if_neg z]; exact h
theorem m_live48 (hc : c ≤ 24) (hr : r < 8) (hs : fs 1 = nI c) (w : WP c kp D A B) (hk0 : ∀ i, i < c → gk (100 + i) = nI (kp i)) (hd0 : ∀ i, i < c → gd9 (100 + i) = D i) (ha0 : ∀ i, i < c → ga (100 + i) = A i) (hb0 : ∀ i, i < c → gb (100 + i) = B i)
    (K : (Nat → Int32) → (Nat → Int32) → Int32 → Int32 → Option (Int32 × (Nat → Int32) × (Nat → Int32))) (Dn0 : Nat → Bool) : ∀ (k j : Nat) {se dn : Nat → Int32} {Se Dn : Nat → Bool} {more : Bool}, j ≤ c → c - j < k → LRel se dn Se Dn → LInv kp D A B c r t0 Se Dn →
    ((more = false ∧ ∀ i, i < j → Se i = true → Dn i = true) ∨ (more = true ∧ dnM c Dn < dnM c Dn0)) → dnM c Dn ≤ dnM c Dn0 →
    (∃ dn' se', f_X9_live_48 n K k ga gb gd9 dn gk se fs (nI r) (b2i more) (nI j) = some (1, dn', se') ∧ LiveP kp D A B c t0 r) ∨
    (∃ dn' se' more' Se' Dn', f_X9_live_48 n K k ga gb gd9 dn gk se fs (nI r) (b2i more) (nI j) = K dn' se' (nI r) (b2i more') ∧ LRel se' dn' Se' Dn' ∧ LInv kp D A B c r t0 Se' Dn' ∧ ((more' = false ∧ ∀ i, i < c → Se' i = true → Dn' i = true) ∨ (more' = true ∧ dnM c Dn' < dnM c Dn0))) := by
  intro k
  induction k with
  | zero => intro j se dn Se Dn more h1 h2; omega
  | succ k ih =>
    intro j se dn Se Dn more hj hk hL hI hm hle
    rw [f_X9_live_48, show (1 : Int32) = nI 1 from pn_1, pn_gd (show 1 < 4 by omega) (by omega), nI_clamp (show 1 < 2 ^ 31 by omega), hs, ← pn_1]
    by_cases e : j = c
    · subst e
      rw [if_pos (nI_le (Nat.le_refl _) (by omega))]
      exact Or.inr ⟨_, _, _, _, _, rfl, hL, hI, hm⟩
    · have hlt : j < c := by omega
      have g26 : ∀ {α : Type} {x : Option α}, gd (nI j) 26 x = x := pn_gd (by omega) (by omega)
      have g100 : ∀ {α : Type} {x : Option α}, gd (nI (100 + j)) 400 x = x := pn_gd (by omega) (by omega)
      rw [if_neg (nI_ge hlt (by omega)), pn_h]
      simp only [g26, g100, pn_s]
      rw [nI_clamp (show j < 2 ^ 31 by omega), nI_clamp (show 100 + j < 2 ^ 31 by omega), (hL j (by omega)).1, (hL j (by omega)).2, nb_v (Or.inr rfl)]
      have skip : (Se j = true → Dn j = true) → (∃ dn' se', f_X9_live_48 n K k ga gb gd9 dn gk se fs (nI r) (b2i more) (nI (j + 1)) = some (1, dn', se') ∧ LiveP kp D A B c t0 r) ∨ (∃ dn' se' more' Se' Dn', f_X9_live_48 n K k ga gb gd9 dn gk se fs (nI r) (b2i more) (nI (j + 1)) = K dn' se' (nI r) (b2i more') ∧ LRel se' dn' Se' Dn' ∧ LInv kp D A B c r t0 Se' Dn' ∧ ((more' = false ∧ ∀ i, i < c → Se' i = true → Dn' i = true) ∨ (more' = true ∧ dnM c Dn' < dnM c Dn0))) := fun hj2 => by
        refine ih (j + 1) (by omega) (by omega) hL hI ?_ hle
        rcases hm with h | h
        · refine Or.inl ⟨h.1, fun i hi hSi => ?_⟩
          by_cases z : i = j
          · rw [z] at hSi ⊢; exact hj2 hSi
          · exact h.2 i (by omega) hSi
        · exact Or.inr h
      cases eS : Se j with
      | false =>
        rw [if_pos (show b2i false = 0 by decide)]
        exact skip (fun z => by rw [eS] at z; cases z)
      | true =>
        rw [if_neg (show ¬ b2i true = 0 by decide)]
        cases eD : Dn j with
        | true =>
          rw [if_neg (show ¬ b2i true = 0 by decide)]
          exact skip (fun _ => eD)
        | false =>
          have wj := w j hlt
          have hk : kp j < 15 := by have := wj.1; omega
          rw [if_pos (show b2i false = 0 by decide), m_reads (A := A) (B := B) (by omega) hr (hk0 j hlt) wj.1 (ha0 j hlt) (hb0 j hlt)]
          simp only [Option.bind_some]
          cases eR : rdB (kp j) (A j) (B j) r with
          | true =>
            rw [if_neg (show ¬ b2i true = 0 by decide)]
            refine Or.inl ⟨_, _, rfl, hI.2.1 j eS ⟨1, ?_⟩⟩
            show (decide (j < c) && lvF kp D A B (lvN kp D A B c 0) j r) = true
            unfold lvF
            rw [decide_eq_true hlt, eR]; rfl
          | false =>
            have n13 : (kp j == 13) = false := by have := wj.1; simp; omega
            have hml := dnM_upd hlt eD
            rw [if_pos (show b2i false = 0 by decide), hk0 j hlt, m_writes _ hk, n13, Bool.or_false, hd0 j hlt]
            simp only [Option.bind_some]
            -- the successors are seen
            have cont : wrB (kp j) (D j) r = false → (∃ dn' se', f_X9_live_141 n K (fun f0_done' f0_seen' x1' x3' x4' => f_X9_live_48 n K k ga gb gd9 f0_done' gk f0_seen' fs x1' x3' x4') ga gb gd9 (upd dn j 1) gk se fs (nI r) 1 (nI j) (nI (kp j)) = some (1, dn', se') ∧ LiveP kp D A B c t0 r) ∨ (∃ dn' se' more' Se' Dn', f_X9_live_141 n K (fun f0_done' f0_seen' x1' x3' x4' => f_X9_live_48 n K k ga gb gd9 f0_done' gk f0_seen' fs x1' x3' x4') ga gb gd9 (upd dn j 1) gk se fs (nI r) 1 (nI j) (nI (kp j)) = K dn' se' (nI r) (b2i more') ∧ LRel se' dn' Se' Dn' ∧ LInv kp D A B c r t0 Se' Dn' ∧ ((more' = false ∧ ∀ i, i < c → Se' i = true → Dn' i = true) ∨ (more' = true ∧ dnM c Dn' < dnM c Dn0))) := fun hW => by
              have lstep : ∀ x, (faK (kp j) = true ∧ x = j + 1) ∨ (goK (kp j) = true ∧ x = nN (D j)) → LiveP kp D A B c x r → LiveP kp D A B c t0 r := fun x hx ⟨m, hm⟩ => by
                refine hI.2.1 j eS ⟨m + 1, ?_⟩
                show (decide (j < c) && lvF kp D A B (lvN kp D A B c m) j r) = true
                unfold lvF aftB
                rw [decide_eq_true hlt, eR, hW]
                rcases hx with ⟨h1, h2⟩ | ⟨h1, h2⟩
                · rw [h2] at hm; rw [h1, hm]; rfl
                · rw [h2] at hm; rw [h1, hm]; simp
              have e141 : f_X9_live_141 n K (fun f0_done' f0_seen' x1' x3' x4' => f_X9_live_48 n K k ga gb gd9 f0_done' gk f0_seen' fs x1' x3' x4') ga gb gd9 (upd dn j 1) gk se fs (nI r) 1 (nI j) (nI (kp j)) = f_X9_live_174 n K (fun f0_done' f0_seen' x1' x3' x4' => f_X9_live_48 n K k ga gb gd9 f0_done' gk f0_seen' fs x1' x3' x4') ga gb gd9 (upd dn j 1) gk se fs (nI r) 1 (nI j) (nI (kp j)) (nI (j + 1)) (b2i (Se (j + 1) || faK (kp j))) := by
                unfold f_X9_live_141
                rw [pn_s, pn_gd (by omega) (by omega), nI_clamp (by omega), (hL (j + 1) (by omega)).1, m_falls _ hk]
                simp only [Option.bind_some]
                cases Se (j + 1) <;> cases faK (kp j) <;> rfl
              rw [e141]
              unfold f_X9_live_174
              rw [pn_gd (show j + 1 < 26 by omega) (by omega), m_goes _ hk, nI_clamp (show j + 1 < 2 ^ 31 by omega), nb_v (b2i_01 _), pn_h]
              simp only [Option.bind_some, g100]
              rw [nI_clamp (show 100 + j < 2 ^ 31 by omega), hd0 j hlt, pn_s]
              have hL1 := rel_seen (i := j + 1) (Se (j + 1) || faK (kp j)) (rel_upd (i := j) hL)
              -- the invariant after the first successor, with what the second adds
              have inv : ∀ Se', (∀ x, Se x = true → Se' x = true) → (∀ x, Se' x = true → Se x = true ∨ (faK (kp j) = true ∧ x = j + 1) ∨ (goK (kp j) = true ∧ x = nN (D j))) → (faK (kp j) = true → Se' (j + 1) = true) → (goK (kp j) = true → Se' (nN (D j)) = true) → LInv kp D A B c r t0 Se' (updB Dn j true) := fun Se' h1 h2 h3 h4 => by
                refine ⟨h1 _ hI.1, fun x hx hl => ?_, fun i hi hd => ?_⟩
                · rcases h2 x hx with h | h
                  · exact hI.2.1 x h hl
                  · exact lstep x h hl
                · by_cases z : i = j
                  · rw [z]; exact ⟨eR, fun _ => ⟨h3, h4⟩⟩
                  · have hd : Dn i = true := by unfold updB at hd; rw [if_neg z] at hd; exact hd
                    obtain ⟨a1, a2⟩ := hI.2.2 i hi hd
                    exact ⟨a1, fun hw => ⟨fun hx => h1 _ ((a2 hw).1 hx), fun hx => h1 _ ((a2 hw).2 hx)⟩⟩
              have s1 : ∀ x, updB Se (j + 1) (Se (j + 1) || faK (kp j)) x = true → Se x = true ∨ (faK (kp j) = true ∧ x = j + 1) := fun x hx => by
                unfold updB at hx
                by_cases z : x = j + 1
                · rw [if_pos z, Bool.or_eq_true] at hx
                  rcases hx with h | h
                  · rw [z]; exact Or.inl h
                  · exact Or.inr ⟨h, z⟩
                · rw [if_neg z] at hx; exact Or.inl hx
              have s2 : faK (kp j) = true → updB Se (j + 1) (Se (j + 1) || faK (kp j)) (j + 1) = true := fun h => by
                unfold updB; rw [if_pos rfl, h, Bool.or_true]
              cases eg : goK (kp j) with
              | false =>
                rw [if_pos (show b2i false = 0 by decide)]
                exact ih (j + 1) (more := true) (by omega) (by omega) hL1 (inv _ (fun x hx => updB_or _ hx) (fun x hx => by
                  rcases s1 x hx with h | h
                  · exact Or.inl h
                  · exact Or.inr (Or.inl h)) s2 (fun h => by rw [eg] at h; cases h)) (Or.inr ⟨rfl, by omega⟩) (by omega)
              | true =>
                obtain ⟨t, ht1, ht2⟩ := wj.2.2.2.2.1 eg
                have hnt : nN (D j) = t := by rw [ht2]; exact nI_clamp (by omega)
                rw [if_neg (show ¬ b2i true = 0 by decide), ht2, pn_gd (by omega) (by omega), nI_clamp (by omega), nb_v (Or.inr rfl)]
                refine ih (j + 1) (more := true) (by omega) (by omega) (rel_seen (i := t) true hL1) (inv _ (fun x hx => updB_t (updB_or _ hx)) (fun x hx => ?_) (fun h => updB_t (s2 h)) (fun _ => ?_)) (Or.inr ⟨rfl, by omega⟩) (by omega)
                · by_cases z : x = t
                  · exact Or.inr (Or.inr ⟨eg, by rw [hnt]; exact z⟩)
                  · have : updB Se (j + 1) (Se (j + 1) || faK (kp j)) x = true := by
                      have := hx
                      unfold updB at this
                      rw [if_neg z] at this
                      exact this
                    rcases s1 x this with h | h
                    · exact Or.inl h
                    · exact Or.inr (Or.inl h)
                · rw [hnt]; unfold updB; rw [if_pos rfl]
            cases eW : wrK (kp j) with
            | false =>
              rw [if_pos (show b2i false = 0 by decide)]
              exact cont (by unfold wrB; rw [eW]; rfl)
            | true =>
              rw [if_neg (show ¬ b2i true = 0 by decide)]
              by_cases z : D j = nI r
              · rw [if_pos z]
                refine ih (j + 1) (more := true) (by omega) (by omega) (rel_upd hL) ⟨hI.1, hI.2.1, fun i hi hd => ?_⟩ (Or.inr ⟨rfl, by omega⟩) (by omega)
                by_cases y : i = j
                · rw [y]
                  refine ⟨eR, fun hw => ?_⟩
                  unfold wrB at hw
                  rw [eW, decide_eq_true z] at hw
                  cases hw
                · have hd : Dn i = true := by unfold updB at hd; rw [if_neg y] at hd; exact hd
                  exact hI.2.2 i hi hd
              · rw [if_neg z]
                exact cont (by unfold wrB; rw [eW, decide_eq_false z]; rfl)
theorem m_live39 (hn : 30 < n) (hc : c ≤ 24) (hr : r < 8) (hs : fs 1 = nI c) (w : WP c kp D A B) (hk0 : ∀ i, i < c → gk (100 + i) = nI (kp i)) (hd0 : ∀ i, i < c → gd9 (100 + i) = D i) (ha0 : ∀ i, i < c → ga (100 + i) = A i) (hb0 : ∀ i, i < c → gb (100 + i) = B i) {p : Nat → Nat → Bool} (hp : LvS kp D A B c p) : ∀ (m : Nat) {se dn : Nat → Int32} {Se Dn : Nat → Bool} (k : Nat), dnM c Dn = m → m + 2 < k → LRel se dn Se Dn → LInv kp D A B c r t0 Se Dn →
    ∃ dn' se', f_X9_live_39 n k ga gb gd9 dn gk se fs (nI r) 1 = some (b2i (p t0 r), dn', se') := by
  intro m
  induction m using Nat.strongRecOn with
  | _ m ih =>
    intro se dn Se Dn k hm hk hL hI
    obtain ⟨k, rfl⟩ : ∃ k', k = k' + 1 := ⟨k - 1, by omega⟩
    rw [f_X9_live_39, if_neg (show ¬ (1 : Int32) = 0 by decide)]
    have := m_live48 (n := n) (t0 := t0) hc hr hs w hk0 hd0 ha0 hb0 (fun f0_done' f0_seen' x1' x3' => f_X9_live_39 n k ga gb gd9 f0_done' gk f0_seen' fs x1' x3') Dn n 0 (more := false) (by omega) (by omega) hL hI (Or.inl ⟨rfl, fun i hi => by omega⟩) (Nat.le_refl _)
    rw [b2i_f, ← pn_0] at this
    rcases this with ⟨dn', se', h1, h2⟩ | ⟨dn', se', more', Se', Dn', h1, h2, h3, h4⟩
    · rw [h1, (hp t0 r hr).mpr h2]
      exact ⟨_, _, rfl⟩
    · rw [h1]
      rcases h4 with ⟨h5, h6⟩ | ⟨h5, h6⟩
      · obtain ⟨k, rfl⟩ : ∃ k', k = k' + 1 := ⟨k - 1, by omega⟩
        have hno : ∀ q i, Se' i = true → lvN kp D A B c q i r = true → False := fun q => by
          induction q with
          | zero => intro i _ h; cases h
          | succ q ihq =>
            intro i hSi h
            have h : (decide (i < c) && lvF kp D A B (lvN kp D A B c q) i r) = true := h
            rw [Bool.and_eq_true, decide_eq_true_eq] at h
            obtain ⟨a1, a2⟩ := h3.2.2 i h.1 (h6 i h.1 hSi)
            have h2 := h.2
            unfold lvF aftB at h2
            rw [a1, Bool.false_or, Bool.and_eq_true, Bool.or_eq_true, Bool.and_eq_true, Bool.and_eq_true] at h2
            have hw : wrB (kp i) (D i) r = false := by
              cases e : wrB (kp i) (D i) r with
              | false => rfl
              | true => rw [e] at h2; cases h2.1
            rcases h2.2 with h | h
            · exact ihq _ ((a2 hw).1 h.1) h.2
            · exact ihq _ ((a2 hw).2 h.1) h.2
        have hpf : p t0 r = false := by
          cases e : p t0 r with
          | false => rfl
          | true =>
            obtain ⟨q, hq⟩ := (hp t0 r hr).mp e
            exact absurd hq (fun h => hno q t0 h3.1 h)
        show ∃ dn'_1 se'_1, f_X9_live_39 n (k + 1) ga gb gd9 dn' gk se' fs (nI r) (b2i more') = _
        rw [h5, f_X9_live_39, if_pos (show b2i false = 0 by decide), hpf]
        exact ⟨_, _, rfl⟩
      · rw [h5]
        exact ih (dnM c Dn') (by omega) k rfl (by omega) h2 h3
theorem m_live2 (hn : 30 < n) (hc : c ≤ 24) (hr : r < 8) (ht0 : t0 < 26) (hs : fs 1 = nI c) (w : WP c kp D A B) (hk0 : ∀ i, i < c → gk (100 + i) = nI (kp i)) (hd0 : ∀ i, i < c → gd9 (100 + i) = D i) (ha0 : ∀ i, i < c → ga (100 + i) = A i) (hb0 : ∀ i, i < c → gb (100 + i) = B i) {p : Nat → Nat → Bool} (hp : LvS kp D A B c p) : ∀ (k j : Nat) {se dn : Nat → Int32}, j ≤ 26 → 26 - j < k → (∀ i, i < j → se i = b2i (i == t0) ∧ dn i = 0) →
    ∃ dn' se', f_X9_live_2 n k ga gb gd9 dn gk se fs (nI r) (nI t0) (nI j) = some (b2i (p t0 r), dn', se') := by
  intro k
  induction k with
  | zero => intro j se dn h1 h2; omega
  | succ k ih =>
    intro j se dn hj hk h
    rw [f_X9_live_2]
    by_cases e : j = 26
    · rw [if_pos ((le26 (by omega)).mpr (by omega))]
      have hbd : dnM c (fun _ => false) ≤ 24 := by
        have h1 : dnM c (fun _ => false) ≤ 1 * c := smN_bd (b := 1) c (fun i _ => by show (if false = true then 0 else 1) ≤ 1; decide)
        omega
      refine m_live39 hn hc hr hs w hk0 hd0 ha0 hb0 hp (dnM c (fun _ => false)) (Se := fun i => i == t0) (Dn := fun _ => false) n rfl (by omega) (fun i hi => h i (by omega)) ⟨beq_self_eq_true _, fun i hi hl => ?_, fun i hi hd => by cases hd⟩
      rw [beq_iff_eq] at hi
      rw [hi] at hl
      exact hl
    · have hlt : j < 26 := by omega
      rw [if_neg (fun z => e (by have := (le26 (by omega)).mp z; omega))]
      unfold f_X9_live_23
      have g : ∀ {α : Type} {x : Option α}, gd (nI j) 26 x = x := pn_gd hlt (by omega)
      simp only [g, pn_s]
      rw [nI_clamp (by omega), nb_v (Or.inl rfl), nb_v (Or.inr rfl)]
      have step : ∀ v, v = b2i (j == t0) → ∀ i, i < j + 1 → upd se j v i = b2i (i == t0) ∧ upd dn j 0 i = 0 := fun v hv i hi => by
        by_cases z : i = j
        · rw [z, upd_s, upd_s]; exact ⟨hv, rfl⟩
        · rw [upd_n _ z, upd_n _ z]; exact h i (by omega)
      by_cases z : j = t0
      · rw [if_pos (by rw [z])]
        exact ih (j + 1) (by omega) (by omega) (step 1 (by rw [z, beq_self_eq_true]; rfl))
      · have hz : (j == t0) = false := by simp [z]
        rw [if_neg (fun t => z (nIj t (by omega) (by omega)))]
        exact ih (j + 1) (by omega) (by omega) (step 0 (by rw [hz]; rfl))
theorem m_live (hn : 30 < n) (hc : c ≤ 24) (hr : r < 8) (ht0 : t0 < 26) (hs : fs 1 = nI c) (w : WP c kp D A B) (hk0 : ∀ i, i < c → gk (100 + i) = nI (kp i)) (hd0 : ∀ i, i < c → gd9 (100 + i) = D i) (ha0 : ∀ i, i < c → ga (100 + i) = A i) (hb0 : ∀ i, i < c → gb (100 + i) = B i) {p : Nat → Nat → Bool} (hp : LvS kp D A B c p) (dn se : Nat → Int32) :
    ∃ dn' se', f_X9_live n ga gb gd9 dn gk se fs (nI r) (nI t0) = some (b2i (p t0 r), dn', se') :=
  m_live2 hn hc hr ht0 hs w hk0 hd0 ha0 hb0 hp n 0 (by omega) (by omega) (fun i hi => by omega)
theorem m_liveBehind {i : Nat} (hn : 30 < n) (hc : c ≤ 24) (hr : r < 8) (hi : i < c) (hs : fs 1 = nI c) (w : WP c kp D A B) (hk0 : ∀ i, i < c → gk (100 + i) = nI (kp i)) (hd0 : ∀ i, i < c → gd9 (100 + i) = D i) (ha0 : ∀ i, i < c → ga (100 + i) = A i) (hb0 : ∀ i, i < c → gb (100 + i) = B i) {p : Nat → Nat → Bool} (hp : LvS kp D A B c p) (dn se : Nat → Int32) :
    ∃ dn' se', f_X9_liveBehind n ga gb gd9 dn gk se fs (nI r) (nI i) = some (b2i (aftB kp D p i r), dn', se') := by
  have wj := w i hi
  have hk : kp i < 15 := by have := wj.1; omega
  have g : ∀ {α : Type} {x : Option α}, gd (nI (100 + i)) 400 x = x := pn_gd (by omega) (by omega)
  have e28 : ∀ dn se, ∃ dn' se', f_X9_liveBehind_28 n ga gb gd9 dn gk se fs (nI r) (nI i) (nI (kp i)) = some (b2i (goK (kp i) && p (nN (D i)) r), dn', se') := fun dn se => by
    unfold f_X9_liveBehind_28
    rw [m_goes _ hk, pn_h]
    simp only [Option.bind_some, g]
    cases eg : goK (kp i) with
    | false => exact ⟨_, _, rfl⟩
    | true =>
      obtain ⟨t, ht1, ht2⟩ := wj.2.2.2.2.1 eg
      have hnt : nN (D i) = t := by rw [ht2]; exact nI_clamp (by omega)
      obtain ⟨dn', se', h⟩ := m_live (t0 := t) hn hc hr (by omega) hs w hk0 hd0 ha0 hb0 hp dn se
      rw [if_neg (show ¬ b2i true = 0 by decide), nI_clamp (by omega), hd0 i hi, hnt, ht2, h]
      simp only [Option.bind_some]
      cases p t r with
      | false => exact ⟨_, _, rfl⟩
      | true => exact ⟨_, _, rfl⟩
  unfold f_X9_liveBehind aftB
  rw [pn_h, g, nI_clamp (by omega), hk0 i hi, m_falls _ hk]
  simp only [Option.bind_some]
  cases ef : faK (kp i) with
  | false =>
    obtain ⟨dn', se', h⟩ := e28 dn se
    rw [if_pos (show b2i false = 0 by decide), h]
    exact ⟨_, _, rfl⟩
  | true =>
    obtain ⟨dn', se', h⟩ := m_live (t0 := i + 1) hn hc hr (by omega) hs w hk0 hd0 ha0 hb0 hp dn se
    rw [if_neg (show ¬ b2i true = 0 by decide), pn_s, h]
    simp only [Option.bind_some]
    cases p (i + 1) r with
    | false =>
      obtain ⟨dn2, se2, h2⟩ := e28 dn' se'
      rw [if_pos (show b2i false = 0 by decide), h2]
      exact ⟨_, _, rfl⟩
    | true => exact ⟨_, _, rfl⟩
end LM
