/-! PACK: past NOTHING, going further, both sides. -/
def psF (kp : Nat → Nat) : Nat → Nat → Nat
  | 0, j => j
  | m + 1, j => if kp j = 0 then psF kp m (j + 1) else j
abbrev past (kp : Nat → Nat) (c j : Nat) : Nat := psF kp (c - j) j
theorem psF_le (kp : Nat → Nat) : ∀ (m j : Nat), j ≤ psF kp m j ∧ psF kp m j ≤ j + m
  | 0, j => ⟨Nat.le_refl _, Nat.le_refl _⟩
  | m + 1, j => by
    unfold psF
    by_cases z : kp j = 0
    · rw [if_pos z]
      have := psF_le kp m (j + 1)
      omega
    · rw [if_neg z]; omega
theorem psF_ne (kp : Nat → Nat) : ∀ (m j : Nat), psF kp m j < j + m → ¬ kp (psF kp m j) = 0
  | 0, j, h => by unfold psF at h; omega
  | m + 1, j, h => by
    unfold psF at h ⊢
    by_cases z : kp j = 0
    · rw [if_pos z] at h ⊢
      exact psF_ne kp m (j + 1) (by omega)
    · rw [if_neg z] at h ⊢; exact z
theorem psF_z (kp : Nat → Nat) : ∀ (m j x : Nat), j ≤ x → x < psF kp m j → kp x = 0
  | 0, j, x, h1, h2 => by unfold psF at h2; omega
  | m + 1, j, x, h1, h2 => by
    unfold psF at h2
    by_cases z : kp j = 0
    · rw [if_pos z] at h2
      by_cases y : x = j
      · rw [y]; exact z
      · exact psF_z kp m (j + 1) x (by omega) h2
    · rw [if_neg z] at h2; omega
theorem past_le {kp : Nat → Nat} {c j : Nat} (h : j ≤ c) : j ≤ past kp c j ∧ past kp c j ≤ c := by
  have := psF_le kp (c - j) j
  exact ⟨this.1, by have := this.2; show psF kp (c - j) j ≤ c; omega⟩
/-- as the class says it: NOWHERE at the end -/
def pI (c p : Nat) : Int32 := if p < c then nI p else -1
theorem pI_eq {c p q : Nat} (hc : c ≤ 24) (hp : p ≤ c) (hq : q ≤ c) : pI c p = pI c q ↔ p = q := by
  have m1 : ∀ x, x ≤ 24 → ¬ nI x = (-1 : Int32) := fun x hx e => by
    have h1 : ¬ nI x < 0 := nI_pos (by omega)
    rw [e] at h1
    exact h1 (by decide)
  constructor
  · intro h
    unfold pI at h
    by_cases a : p < c
    · by_cases b : q < c
      · rw [if_pos a, if_pos b] at h; exact nIj h (by omega) (by omega)
      · rw [if_pos a, if_neg b] at h; exact absurd h (m1 p (by omega))
    · by_cases b : q < c
      · rw [if_neg a, if_pos b] at h; exact absurd h.symm (m1 q (by omega))
      · omega
  · intro h; rw [h]
section PK
variable {n L c : Nat} {kp : Nat → Nat} {fd fk gd9 gk fs : Nat → Int32}
theorem s_past2 (n : Nat) (hc : c ≤ 24) (hL : c ≤ L) (hLL : L < 2 ^ 31) (hf : ∀ i, i < c → fk i = nI (kp i) ∧ kp i < 15) : ∀ (k j : Nat), j ≤ c → c - j < k → f_X5_pastNothing_2 n k L fk (nI c) (nI j) = some (pI c (past kp c j)) := by
  intro k
  induction k with
  | zero => intro j h1 h2; omega
  | succ k ih =>
    intro j hj hk
    rw [f_X5_pastNothing_2]
    by_cases e : j = c
    · subst e
      rw [if_pos (nI_le (Nat.le_refl _) (by omega))]
      unfold pI past
      rw [Nat.sub_self]
      show _ = some (if j < j then nI j else -1)
      rw [if_neg (by omega)]
    · have hlt : j < c := by omega
      have hsub : c - j = (c - (j + 1)) + 1 := by omega
      rw [if_neg (nI_ge hlt (by omega)), pn_gd (by omega) hLL, nI_clamp (by omega), (hf j hlt).1]
      simp only [ki0 (hf j hlt).2, pn_s]
      unfold past
      rw [hsub]
      show _ = some (pI c (if kp j = 0 then psF kp (c - (j + 1)) (j + 1) else j))
      by_cases z : kp j = 0
      · rw [if_pos z, if_pos z]; exact ih (j + 1) (by omega) (by omega)
      · rw [if_neg z, if_neg z]; unfold pI; rw [if_pos hlt]
theorem m_past2 (n : Nat) (hc : c ≤ 24) (hs : fs 1 = nI c) (hf : ∀ i, i < c → gk (100 + i) = nI (kp i) ∧ kp i < 15) : ∀ (k j : Nat), j ≤ c → c - j < k → f_X9_past_2 n k gk fs (nI j) = some (nI (past kp c j)) := by
  intro k
  induction k with
  | zero => intro j h1 h2; omega
  | succ k ih =>
    intro j hj hk
    rw [f_X9_past_2, show (1 : Int32) = nI 1 from pn_1, pn_gd (show 1 < 4 by omega) (by omega), nI_clamp (show 1 < 2 ^ 31 by omega), hs, ← pn_1]
    by_cases e : j = c
    · subst e
      rw [if_pos (nI_le (Nat.le_refl _) (by omega))]
      unfold past
      rw [Nat.sub_self]
      rfl
    · have hlt : j < c := by omega
      have hsub : c - j = (c - (j + 1)) + 1 := by omega
      rw [if_neg (nI_ge hlt (by omega)), pn_h, pn_gd (by omega) (by omega), nI_clamp (by omega), (hf j hlt).1]
      simp only [ki0 (hf j hlt).2, pn_s]
      unfold past
      rw [hsub]
      show _ = some (nI (if kp j = 0 then psF kp (c - (j + 1)) (j + 1) else j))
      by_cases z : kp j = 0
      · rw [if_pos z, if_pos z]; exact ih (j + 1) (by omega) (by omega)
      · rw [if_neg z, if_neg z]
theorem s_past {j : Nat} (hn : 24 < n) (hc : c ≤ 24) (hL : c ≤ L) (hLL : L < 2 ^ 31) (hf : ∀ i, i < c → fk i = nI (kp i) ∧ kp i < 15) (hj : j ≤ c) : f_X5_pastNothing n L fk (nI c) (nI j) = some (pI c (past kp c j)) := s_past2 n hc hL hLL hf n j hj (by omega)
theorem m_past {j : Nat} (hn : 24 < n) (hc : c ≤ 24) (hs : fs 1 = nI c) (hf : ∀ i, i < c → gk (100 + i) = nI (kp i) ∧ kp i < 15) (hj : j ≤ c) : f_X9_past n gk fs (nI j) = some (nI (past kp c j)) := m_past2 n hc hs hf n j hj (by omega)
/-- one time: d of i becomes that of the JUMP to which it goes -/
def gf1 (kp : Nat → Nat) (c i : Nat) (D : Nat → Int32) : Nat → Int32 := if past kp c (nN (D i)) < c ∧ kp (past kp c (nN (D i))) = 9 then upd D i (D (past kp c (nN (D i)))) else D
def gfN (kp : Nat → Nat) (c i : Nat) : Nat → (Nat → Int32) → (Nat → Int32)
  | 0, D => D
  | m + 1, D => gfN kp c i m (gf1 kp c i D)
def pkL (kp : Nat → Nat) (c : Nat) : Nat → Nat → (Nat → Int32) → (Nat → Int32)
  | 0, _, D => D
  | m + 1, i, D => pkL kp c m (i + 1) (if goK (kp i) = true then gfN kp c i 24 D else D)
def DOK (kp : Nat → Nat) (c : Nat) (D : Nat → Int32) : Prop := ∀ i, i < c → goK (kp i) = true → ∃ t, t ≤ c ∧ D i = nI t
theorem gf1_ok {i : Nat} {D : Nat → Int32} (hc : c ≤ 24) (h : DOK kp c D) (hi : goK (kp i) = true) : DOK kp c (gf1 kp c i D) := by
  unfold gf1
  by_cases z : past kp c (nN (D i)) < c ∧ kp (past kp c (nN (D i))) = 9
  · rw [if_pos z]
    intro j hj hg
    by_cases y : j = i
    · rw [y, upd_s]; exact h _ z.1 (by rw [z.2]; decide)
    · rw [upd_n _ y]; exact h j hj hg
  · rw [if_neg z]; exact h
theorem gfN_ok {i : Nat} (hc : c ≤ 24) (hi : goK (kp i) = true) : ∀ (m : Nat) {D : Nat → Int32}, DOK kp c D → DOK kp c (gfN kp c i m D)
  | 0, _, h => h
  | m + 1, _, h => gfN_ok hc hi m (gf1_ok hc h hi)
theorem pkL_ok (hc : c ≤ 24) : ∀ (m i : Nat) {D : Nat → Int32}, DOK kp c D → DOK kp c (pkL kp c m i D)
  | 0, _, _, h => h
  | m + 1, i, D, h => by
    unfold pkL
    refine pkL_ok hc m (i + 1) ?_
    by_cases z : goK (kp i) = true
    · rw [if_pos z]; exact gfN_ok hc z 24 h
    · rw [if_neg z]; exact h
theorem s_gf2 {i : Nat} (hn : 24 < n) (hc : c ≤ 24) (hL : c ≤ L) (hLL : L < 2 ^ 31) (hf : ∀ i, i < c → fk i = nI (kp i) ∧ kp i < 15) (hi : i < c) (hg : goK (kp i) = true) : ∀ (k j : Nat) {D : Nat → Int32}, j ≤ 24 → 24 - j < k → DOK kp c D → f_X5_goFurther_2 n k L D fk (nI c) (nI i) (nI j) = some (gfN kp c i (24 - j) D) := by
  intro k
  induction k with
  | zero => intro j D h1 h2; omega
  | succ k ih =>
    intro j D hj hk hD
    rw [f_X5_goFurther_2]
    by_cases e : j = 24
    · rw [if_pos ((le24 (by omega)).mpr (by omega)), e]
      rfl
    · have hsub : 24 - j = (24 - (j + 1)) + 1 := by omega
      obtain ⟨t, ht, et⟩ := hD i hi hg
      have hpl := past_le (kp := kp) ht
      have gi : ∀ {α : Type} {x : Option α}, gd (nI i) L x = x := pn_gd (by omega) hLL
      have hnt : nN (D i) = t := by rw [et]; exact nI_clamp (by omega)
      rw [if_neg (fun z => e (by have := (le24 (by omega)).mp z; omega)), gi, nI_clamp (show i < 2 ^ 31 by omega), show D i = nI t from et, s_past hn hc hL hLL hf ht, hsub]
      simp only [Option.bind_some, gi, pn_s]
      have hih := ih (j + 1) (by omega) (by omega) (gf1_ok hc hD hg)
      show _ = some (gfN kp c i (24 - (j + 1)) (gf1 kp c i D))
      rw [← hih]
      unfold gf1
      rw [hnt]
      by_cases z : past kp c t < c
      · have hp : pI c (past kp c t) = nI (past kp c t) := if_pos z
        have gp : ∀ {α : Type} {x : Option α}, gd (nI (past kp c t)) L x = x := pn_gd (by omega) hLL
        rw [hp, if_neg (fun e => by have h1 : ¬ nI (past kp c t) < 0 := nI_pos (by omega)
                                    rw [e] at h1; exact h1 (by decide)), gp, nI_clamp (by omega), (hf _ z).1]
        simp only [ki9 (hf _ z).2, gp]
        by_cases y : kp (past kp c t) = 9
        · rw [if_pos y, if_pos ⟨z, y⟩]
        · rw [if_neg y, if_neg (fun h => y h.2)]
      · have hp : pI c (past kp c t) = -1 := if_neg z
        rw [hp, if_pos rfl, if_neg (fun h => z h.1)]
/-- rows of the reference beside rows of the class -/
def Row (c : Nat) (f g g0 : Nat → Int32) : Prop := (∀ i, i < c → g (100 + i) = f i) ∧ Fr c g0 g
theorem Row_upd {f g g0 : Nat → Int32} {i : Nat} {v : Int32} (hi : i < c) (h : Row c f g g0) : Row c (upd f i v) (upd g (100 + i) v) g0 := by
  refine ⟨fun j hj => ?_, fun x hx => ?_⟩
  · by_cases z : j = i
    · rw [z, upd_s, upd_s]
    · rw [upd_n _ z, upd_n _ (by omega)]; exact h.1 j hj
  · rw [upd_n _ (by omega)]; exact h.2 x hx
theorem m_pack16 {i : Nat} {ga gb mk pl : Nat → Int32} (hn : 24 < n) (hc : c ≤ 24) (hs : fs 1 = nI c) (hf : ∀ i, i < c → gk (100 + i) = nI (kp i) ∧ kp i < 15) (hi : i < c) (hg : goK (kp i) = true) (g0 : Nat → Int32)
    (K : (Nat → Int32) → (Nat → Int32) → (Nat → Int32) → (Nat → Int32) → (Nat → Int32) → (Nat → Int32) → (Nat → Int32) → Int32 → Int32 → Option (Int32 × (Nat → Int32) × (Nat → Int32) × (Nat → Int32) × (Nat → Int32) × (Nat → Int32) × (Nat → Int32) × (Nat → Int32))) : ∀ (k j : Nat) {D gd9 : Nat → Int32}, j ≤ 24 → 24 - j < k → DOK kp c D → Row c D gd9 g0 →
    ∃ gd', f_X9_pack_16 n K k ga gb gd9 gk mk pl fs (nI c) (nI i) (nI j) = K ga gb gd' gk mk pl fs (nI c) (nI (i + 1)) ∧ Row c (gfN kp c i (24 - j) D) gd' g0 := by
  intro k
  induction k with
  | zero => intro j D gd9 h1 h2; omega
  | succ k ih =>
    intro j D gd9 hj hk hD hR
    rw [f_X9_pack_16]
    by_cases e : j = 24
    · rw [if_pos ((le24 (by omega)).mpr (by omega)), e, pn_s]
      exact ⟨_, rfl, hR⟩
    · have hsub : 24 - j = (24 - (j + 1)) + 1 := by omega
      obtain ⟨t, ht, et⟩ := hD i hi hg
      have hpl := past_le (kp := kp) ht
      have gi : ∀ {α : Type} {x : Option α}, gd (nI (100 + i)) 400 x = x := pn_gd (by omega) (by omega)
      have hnt : nN (D i) = t := by rw [et]; exact nI_clamp (by omega)
      rw [if_neg (fun z => e (by have := (le24 (by omega)).mp z; omega)), pn_h]
      simp only [gi, pn_s]
      rw [nI_clamp (show 100 + i < 2 ^ 31 by omega), (hf i hi).1, m_goes _ (hf i hi).2, hg, hR.1 i hi, et, m_past hn hc hs hf ht, hsub]
      simp only [Option.bind_some]
      rw [if_neg (show ¬ b2i true = 0 by decide)]
      show ∃ gd', _ ∧ Row c (gfN kp c i (24 - (j + 1)) (gf1 kp c i D)) gd' g0
      have hok := gf1_ok hc hD hg
      by_cases z : past kp c t < c
      · have gp : ∀ {α : Type} {x : Option α}, gd (nI (100 + past kp c t)) 400 x = x := pn_gd (by omega) (by omega)
        rw [if_neg (nI_ge z (by omega)), pn_h]
        simp only [gp]
        rw [nI_clamp (by omega), (hf _ z).1]
        simp only [ki9 (hf _ z).2]
        by_cases y : kp (past kp c t) = 9
        · rw [if_pos y]
          refine ih (j + 1) (by omega) (by omega) hok ?_
          unfold gf1
          rw [hnt, if_pos ⟨z, y⟩, hR.1 _ z]
          exact Row_upd hi hR
        · rw [if_neg y]
          refine ih (j + 1) (by omega) (by omega) hok ?_
          unfold gf1
          rw [hnt, if_neg (fun h => y h.2)]
          exact hR
      · rw [if_pos (nI_le (by omega) (by omega))]
        refine ih (j + 1) (by omega) (by omega) hok ?_
        unfold gf1
        rw [hnt, if_neg (fun h => z h.1)]
        exact hR
end PK
