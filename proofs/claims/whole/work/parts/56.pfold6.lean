/-! FOLD: rounds, to their end; the class. -/
def WP (c : Nat) (kp : Nat → Nat) (D A B : Nat → Int32) : Prop := ∀ i, i < c → WI c (kp i) (D i) (A i) (B i)
def rn (kp : Nat → Nat) (D A B : Nat → Int32) : Nat → Nat → FS → FS
  | 0, _, S => S
  | m + 1, j, S => rn kp D A B m (j + 1) (flw S j (kp j) (D j) (A j) (B j))
def itn (f : FS → FS) : Nat → FS → FS
  | 0, S => S
  | p + 1, S => itn f p (f S)
theorem cm_loc {c t : Nat} {S T : FS} {q : RQ} (h : ∀ j, j < c → S j = T j) : ∀ j, j < c → cm S t q j = cm T t q j := fun j hj => by
  unfold cm
  by_cases e : j = t
  · subst e; rw [h j hj]
  · rw [if_neg e, if_neg e]; exact h j hj
theorem flw_loc {c i k : Nat} {d a b : Int32} {S T : FS} (hi : i < c) (h : ∀ j, j < c → S j = T j) : ∀ j, j < c → flw S i k d a b j = flw T i k d a b j := by
  unfold flw
  rw [← h i hi]
  cases e : S i with
  | none => exact h
  | some q =>
    intro j hj
    show (if _ then _ else _ : FS) j = (if _ then _ else _ : FS) j
    by_cases z : k = 6 ∧ q (nN b) = some 0
    · rw [if_pos z, if_pos z]; exact h j hj
    · rw [if_neg z, if_neg z]
      have h1 : ∀ j, j < c → (if faK k = true ∧ ¬ (k = 10 ∧ q (nN a) = some 0) then cm S (i + 1) (pst q k d a b) else S) j = (if faK k = true ∧ ¬ (k = 10 ∧ q (nN a) = some 0) then cm T (i + 1) (pst q k d a b) else T) j := by
        by_cases y : faK k = true ∧ ¬ (k = 10 ∧ q (nN a) = some 0)
        · rw [if_pos y, if_pos y]; exact cm_loc h
        · rw [if_neg y, if_neg y]; exact h
      show (if _ then _ else _ : FS) j = (if _ then _ else _ : FS) j
      by_cases x : goK k = true ∧ (k = 10 → (q (nN a)).isSome = true → q (nN a) = some 0)
      · rw [if_pos x, if_pos x]; exact cm_loc h1 j hj
      · rw [if_neg x, if_neg x]; exact h1 j hj
theorem rn_loc {c : Nat} {kp : Nat → Nat} {D A B : Nat → Int32} : ∀ (m j : Nat) {S T : FS}, m + j ≤ c → (∀ x, x < c → S x = T x) → ∀ x, x < c → rn kp D A B m j S x = rn kp D A B m j T x
  | 0, _, _, _, _, h => h
  | m + 1, j, S, T, hm, h => rn_loc m (j + 1) (by omega) (flw_loc (by omega) h)
theorem rn_T {c : Nat} {kp : Nat → Nat} {D A B : Nat → Int32} (w : WP c kp D A B) : ∀ (m j : Nat) {S : FS}, m + j ≤ c → TS S → TS (rn kp D A B m j S)
  | 0, _, _, _, h => h
  | m + 1, j, _, hm, h => rn_T w m (j + 1) (by omega) (flw_T (w j (by omega)) h)
abbrev rnd (kp : Nat → Nat) (D A B : Nat → Int32) (c : Nat) (S : FS) : FS := rn kp D A B c 0 S
theorem itn_add (f : FS → FS) : ∀ (p q : Nat) (S : FS), itn f (p + q) S = itn f q (itn f p S)
  | 0, q, S => by rw [Nat.zero_add]; rfl
  | p + 1, q, S => by
    have : p + 1 + q = (p + q) + 1 := by omega
    rw [this]
    exact itn_add f p q (f S)
theorem itn_fix {c : Nat} {kp : Nat → Nat} {D A B : Nat → Int32} {S : FS} (h : ∀ j, j < c → rnd kp D A B c S j = S j) : ∀ (p : Nat) (T : FS), (∀ j, j < c → T j = S j) → ∀ j, j < c → itn (rnd kp D A B c) p T j = S j
  | 0, _, hT => hT
  | p + 1, T, hT => itn_fix h p _ (fun j hj => (rn_loc c 0 (by omega) hT j hj).trans (h j hj))
theorem itn_same {c p q : Nat} {kp : Nat → Nat} {D A B : Nat → Int32} {S : FS} (hp : ∀ j, j < c → rnd kp D A B c (itn (rnd kp D A B c) p S) j = itn (rnd kp D A B c) p S j) (hq : ∀ j, j < c → rnd kp D A B c (itn (rnd kp D A B c) q S) j = itn (rnd kp D A B c) q S j) : ∀ j, j < c → itn (rnd kp D A B c) p S j = itn (rnd kp D A B c) q S j := by
  intro j hj
  by_cases e : p ≤ q
  · have : q = p + (q - p) := by omega
    rw [this, itn_add]
    exact (itn_fix hp (q - p) _ (fun _ _ => rfl) j hj).symm
  · have : p = q + (p - q) := by omega
    rw [this, itn_add]
    exact itn_fix hq (p - q) _ (fun _ _ => rfl) j hj
section FC3
variable {n L c : Nat} {S S0 : FS} {fa fb fd fk : Nat → Int32} {kp : Nat → Nat}
theorem RelC_cong {T : FS} {kn nu re : Nat → Int32} (h : RelC c S kn nu re) (e : ∀ j, j < c → S j = T j) : RelC c T kn nu re := fun i hi => by
  rw [← e i hi]; exact h i hi
theorem s_fold27 (hn : 8 < n) (hc : c ≤ 24) (hL : c ≤ L) (hLL : L < 2 ^ 31) (hf : ∀ i, i < c → fk i = nI (kp i)) (w : WP c kp fd fa fb) (K : (Nat → Int32) → (Nat → Int32) → (Nat → Int32) → (Nat → Int32) → (Nat → Int32) → (Nat → Int32) → (Nat → Int32) → (Nat → Int32) → Int32 → Int32 → Int32 → Option (Int32 × (Nat → Int32) × (Nat → Int32) × (Nat → Int32) × (Nat → Int32) × (Nat → Int32) × (Nat → Int32) × (Nat → Int32) × (Nat → Int32) × Int32 × Int32)) (x2 : Int32) :
    ∀ (k j : Nat) {S : FS} {fl kn nu re : Nat → Int32} {fkn ch : Int32}, j ≤ c → c - j < k → TS S → RelC c S kn nu re → CU c S0 ch S →
    ∃ fl' kn' nu' re' fkn' ch', f_X1_fold_27 n K k L fl kn nu re fa fb fd fk fkn ch (nI c) x2 (nI j) = K fl' kn' nu' re' fa fb fd fk fkn' ch' (x2 + 1) ∧ RelC c (rn kp fd fa fb (c - j) j S) kn' nu' re' ∧ CU c S0 ch' (rn kp fd fa fb (c - j) j S) := by
  intro k
  induction k with
  | zero => intro j S fl kn nu re fkn ch h1 h2; omega
  | succ k ih =>
    intro j S fl kn nu re fkn ch hj hk hS hR hU
    rw [f_X1_fold_27]
    by_cases e : j = c
    · subst e
      rw [if_pos (nI_le (Nat.le_refl _) (by omega)), Nat.sub_self]
      exact ⟨_, _, _, _, _, _, rfl, hR, hU⟩
    · have hlt : j < c := by omega
      have hsub : c - j = (c - (j + 1)) + 1 := by omega
      rw [if_neg (nI_ge hlt (by omega)), pn_gd (show j < 24 by omega) (by omega), nI_clamp (by omega), hsub, pn_s]
      show ∃ fl' kn' nu' re' fkn' ch', _ ∧ RelC c (rn kp fd fa fb (c - (j + 1)) (j + 1) (flw S j (kp j) (fd j) (fa j) (fb j))) kn' nu' re' ∧ CU c S0 ch' (rn kp fd fa fb (c - (j + 1)) (j + 1) (flw S j (kp j) (fd j) (fa j) (fb j)))
      have hRj := hR j hlt
      cases eS : S j with
      | none =>
        rw [eS] at hRj
        have hRj : re j = 0 := hRj
        rw [if_pos hRj]
        have ef : flw S j (kp j) (fd j) (fa j) (fb j) = S := by unfold flw; rw [eS]
        rw [ef]
        exact ih (j + 1) (by omega) (by omega) hS hR hU
      | some q =>
        rw [eS] at hRj
        rw [if_neg (by rw [hRj.1]; decide)]
        obtain ⟨fl', kn', nu', re', fkn', ch', h1, h2, h3⟩ := s_follow (fl := fl) (fkn := fkn) hn hc hlt (by omega) hLL (hf j hlt) (w j hlt) hS hR eS hU
        rw [h1]
        simp only [Option.bind_some]
        exact ih (j + 1) (by omega) (by omega) (flw_T (w j hlt) hS) h2 h3
theorem s_fold6 (hn : 300 < n) (hc : c ≤ 24) (hL : c ≤ L) (hLL : L < 2 ^ 31) (hf : ∀ i, i < c → fk i = nI (kp i)) (w : WP c kp fd fa fb) :
    ∀ (m : Nat) {S : FS} {fl kn nu re : Nat → Int32} {fkn : Int32} (k rr : Nat), mu S = m → m + 2 < k → rr + m + 2 < 1000 → TS S → RelC c S kn nu re →
    ∃ p fl' kn' nu' re' fkn', f_X1_fold_6 n k L fl kn nu re fa fb fd fk fkn 1 (nI c) (nI rr) = f_X1_fold_62 n L fl' kn' nu' re' fa fb fd fk fkn' 0 (nI c) ∧ RelC c (itn (rnd kp fd fa fb c) p S) kn' nu' re' ∧ ∀ j, j < c → rnd kp fd fa fb c (itn (rnd kp fd fa fb c) p S) j = itn (rnd kp fd fa fb c) p S j := by
  intro m
  induction m using Nat.strongRecOn with
  | _ m ih =>
    intro S fl kn nu re fkn k rr hm hk hr hS hR
    obtain ⟨k, rfl⟩ : ∃ k', k = k' + 1 := ⟨k - 1, by omega⟩
    rw [f_X1_fold_6, if_neg (show ¬ (1 : Int32) = 0 by decide), if_neg (fun z => by have := (le1000 (by omega)).mp z; omega)]
    obtain ⟨fl', kn', nu', re', fkn', ch', h1, h2, h3⟩ := s_fold27 (n := n) (S0 := S) (fl := fl) (fkn := fkn) (ch := 0) (by omega) hc hL hLL hf w (fun f0_flowing' f0_known' f0_numbers' f0_reached' f1_a' f1_b' f1_d' f1_kind' v0_flowingKnown' v0_changed' x2' => f_X1_fold_6 n k L f0_flowing' f0_known' f0_numbers' f0_reached' f1_a' f1_b' f1_d' f1_kind' v0_flowingKnown' v0_changed' (nI c) x2') (nI rr) n 0 (by omega) (by omega) hS hR ⟨Nat.le_refl _, Or.inl ⟨rfl, fun _ _ => rfl⟩⟩
    rw [show (0 : Int32) = nI 0 from pn_0] at h1 ⊢
    rw [h1]
    rw [Nat.sub_zero] at h2 h3
    rcases h3.2 with h | h
    · obtain ⟨k, rfl⟩ : ∃ k', k = k' + 1 := ⟨k - 1, by omega⟩
      refine ⟨0, fl', kn', nu', re', fkn', ?_, RelC_cong h2 h.2, h.2⟩
      rw [f_X1_fold_6, if_pos h.1, h.1, pn_0]
    · have hlt : mu (rnd kp fd fa fb c S) < m := by rw [← hm]; exact h.2
      rw [h.1, pn_s]
      obtain ⟨p, fl2, kn2, nu2, re2, fkn2, j1, j2, j3⟩ := ih (mu (rnd kp fd fa fb c S)) hlt (fl := fl') (fkn := fkn') k (rr + 1) rfl (by omega) (by omega) (rn_T w c 0 (by omega) hS) h2
      refine ⟨p + 1, fl2, kn2, nu2, re2, fkn2, ?_, j2, j3⟩
      rw [j1, pn_0]
theorem s_fill (n : Nat) {Ln : Nat} (hLn : Ln < 2 ^ 31) (v : Int32) : ∀ (k j : Nat) (f : Nat → Int32), j ≤ Ln → Ln - j < k → (∀ i, i < j → f i = v) → ∃ g, f_J7_fill_53178_5 n k Ln f v (nI j) (nI Ln) = some g ∧ ∀ i, i < Ln → g i = v := by
  intro k
  induction k with
  | zero => intro j f h1 h2; omega
  | succ k ih =>
    intro j f hj hk h
    rw [f_J7_fill_53178_5]
    by_cases e : j = Ln
    · subst e
      rw [if_pos (nI_le (Nat.le_refl _) hLn)]
      exact ⟨_, rfl, h⟩
    · have hlt : j < Ln := by omega
      rw [if_neg (nI_ge hlt hLn), pn_gd hlt hLn, nI_clamp (by omega), pn_s]
      refine ih (j + 1) _ (by omega) (by omega) (fun i hi => ?_)
      by_cases e2 : i = j
      · rw [e2, upd_s]
      · rw [upd_n _ e2]; exact h i (by omega)
def q0 : RQ := fun r => if 2 ≤ r ∧ r < 8 then some 0 else none
def S00 : FS := cm (fun _ => none) 0 q0
theorem q0_T : Tq q0 := fun r hr => by unfold q0; rw [if_neg (by omega)]
theorem S00_T : TS S00 := cm_T (fun i q h => by cases h) q0_T
theorem s_begin2 (hn : 24 < n) (hc : c ≤ 24) (h0 : 0 < c) {kn nu : Nat → Int32} {fkn ch : Int32} {fl : Nat → Int32} (hch : ch = 0 ∨ ch = 1) : ∀ (k j : Nat) {re : Nat → Int32}, j ≤ 24 → 24 - j < k → (∀ i, i < j → re i = 0) →
    ∃ fl' kn' nu' re', f_X1_begin_2 n k fl kn nu re fkn ch (nI j) = some (fl', kn', nu', re', 252, 1) ∧ RelC c S00 kn' nu' re' := by
  intro k
  induction k with
  | zero => intro j re h1 h2; omega
  | succ k ih =>
    intro j re hj hk h
    rw [f_X1_begin_2]
    by_cases e : j = 24
    · rw [if_pos ((le24 (by omega)).mpr (by omega))]
      obtain ⟨g, hg, hg2⟩ := s_fill n (Ln := 8) (by omega) 0 n 0 fl (by omega) (by omega) (fun i hi => by omega)
      have hg' : f_J7_fill_53178 n 8 fl 0 = some g := hg
      rw [hg']
      simp only [Option.bind_some]
      have hR0 : RelC c (fun _ => none) kn nu re := fun i hi => h i (by omega)
      have key : ∃ kn' nu' re', f_X1_flowTo n g kn nu re 252 ch (nI 0) = some (kn', nu', re', 1) ∧ RelC c S00 kn' nu' re' := by
        obtain ⟨kn', nu', re', ch', h1, h2, h3⟩ := s_flowTo (n := n) (S0 := fun _ => none) (ch := 0) (q := q0) (fl := g) (by omega) hc h0 (S := fun _ => none) (fun i q h => by cases h) hR0 (bs_cong bs_252 (fun r hr => by unfold q0; by_cases z : 2 ≤ r <;> simp [z, hr])) (fun r hr v hv => by
          unfold q0 at hv
          by_cases z : 2 ≤ r ∧ r < 8
          · rw [if_pos z] at hv; rw [hg2 r hr]; exact Option.some.inj hv
          · rw [if_neg z] at hv; cases hv) ⟨Nat.le_refl _, Or.inl ⟨rfl, fun _ _ => rfl⟩⟩
        refine ⟨kn', nu', re', ?_, h2⟩
        have e0 : re 0 = 0 := h 0 (by omega)
        unfold f_X1_flowTo at h1 ⊢
        have hm1 : ¬ nI 0 = (-1 : Int32) := by decide
        rw [if_neg hm1] at h1 ⊢
        simp only [pn_gd (show 0 < 24 by omega) (show 24 < 2 ^ 31 by omega), nI_clamp (show 0 < 2 ^ 31 by omega)] at h1 ⊢
        rw [if_pos e0] at h1 ⊢
        rw [pn_m8, gc_in ⟨by decide, by decide, by decide, by decide, by decide⟩] at h1 ⊢
        simp only [Option.some.injEq, Prod.mk.injEq] at h1
        obtain ⟨a1, a2, a3, a4⟩ := h1
        rw [← a1, ← a2, ← a3]
      obtain ⟨kn', nu', re', h1, h2⟩ := key
      rw [show (0 : Int32) = nI 0 from pn_0, h1]
      exact ⟨_, _, _, _, rfl, h2⟩
    · have hlt : j < 24 := by omega
      rw [if_neg (fun z => e (by have := (le24 (by omega)).mp z; omega)), pn_gd hlt (by omega), nI_clamp (by omega), pn_s, nb_v (Or.inl rfl)]
      refine ih (j + 1) (by omega) (by omega) (fun i hi => ?_)
      by_cases e2 : i = j
      · rw [e2, upd_s]
      · rw [upd_n _ e2]; exact h i (by omega)
theorem s_fold_flow (hn : 300 < n) (hc : c ≤ 24) (h0 : 0 < c) (hL : c ≤ L) (hLL : L < 2 ^ 31) (hf : ∀ i, i < c → fk i = nI (kp i)) (w : WP c kp fd fa fb) {fl kn nu re : Nat → Int32} {fkn ch : Int32} (hch : ch = 0 ∨ ch = 1) :
    ∃ p fl' kn' nu' re' fkn', f_X1_fold n L fl kn nu re fa fb fd fk fkn ch (nI c) = f_X1_fold_62 n L fl' kn' nu' re' fa fb fd fk fkn' 0 (nI c) ∧ RelC c (itn (rnd kp fd fa fb c) p S00) kn' nu' re' ∧ ∀ j, j < c → rnd kp fd fa fb c (itn (rnd kp fd fa fb c) p S00) j = itn (rnd kp fd fa fb c) p S00 j := by
  unfold f_X1_fold f_X1_begin
  obtain ⟨fl', kn', nu', re', h1, h2⟩ := s_begin2 (n := n) (fl := fl) (kn := kn) (nu := nu) (fkn := fkn) (by omega) hc h0 hch n 0 (re := re) (by omega) (by omega) (fun i hi => by omega)
  rw [show (0 : Int32) = nI 0 from pn_0, h1]
  simp only [Option.bind_some]
  rw [← pn_0]
  have hmu := mu_bd S00
  exact s_fold6 hn hc hL hLL hf w (mu S00) n 0 rfl (by omega) (by omega) S00_T h2
end FC3
