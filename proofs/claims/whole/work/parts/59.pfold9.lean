/-! FOLD: the reference's rounds; both rewrite. -/
section FM3
variable {n c : Nat} {S S0 : FS} {fa fb fd fk fs : Nat → Int32} {kp : Nat → Nat} {D A B : Nat → Int32}
theorem m_fold84 (hn : 8 < n) (hc : c ≤ 24) (hs : fs 1 = nI c) (hf : ∀ i, i < c → fk (100 + i) = nI (kp i)) (hd : ∀ i, i < c → fd (100 + i) = D i) (ha : ∀ i, i < c → fa (100 + i) = A i) (hb : ∀ i, i < c → fb (100 + i) = B i) (w : WP c kp D A B)
    (K : (Nat → Int32) → (Nat → Int32) → (Nat → Int32) → (Nat → Int32) → (Nat → Int32) → (Nat → Int32) → (Nat → Int32) → Int32 → Option (Int32 × (Nat → Int32) × (Nat → Int32) × (Nat → Int32) × (Nat → Int32) × (Nat → Int32) × (Nat → Int32) × (Nat → Int32) × Int32)) :
    ∀ (k j : Nat) {S : FS} {kn nu re : Nat → Int32} {ch : Int32}, j ≤ c → c - j < k → TS S → RelM c S kn nu re → CU (c + 1) S0 ch S →
    ∃ kn' nu' re' ch', f_X9_fold_84 n K k fa fb fd fk kn nu re fs ch (nI j) = K fa fb fd fk kn' nu' re' ch' ∧ RelM c (rn kp D A B (c - j) j S) kn' nu' re' ∧ CU (c + 1) S0 ch' (rn kp D A B (c - j) j S) := by
  intro k
  induction k with
  | zero => intro j S kn nu re ch h1 h2; omega
  | succ k ih =>
    intro j S kn nu re ch hj hk hS hR hU
    rw [f_X9_fold_84, show (1 : Int32) = nI 1 from pn_1, pn_gd (by omega) (by omega), nI_clamp (show 1 < 2 ^ 31 by omega), hs]
    by_cases e : j = c
    · subst e
      rw [if_pos (nI_le (Nat.le_refl _) (by omega)), Nat.sub_self]
      exact ⟨_, _, _, _, rfl, hR, hU⟩
    · have hlt : j < c := by omega
      have hsub : c - j = (c - (j + 1)) + 1 := by omega
      rw [if_neg (nI_ge hlt (by omega)), pn_gd (show j < 26 by omega) (by omega), nI_clamp (by omega), hsub, ← pn_1, pn_s]
      show ∃ kn' nu' re' ch', _ ∧ RelM c (rn kp D A B (c - (j + 1)) (j + 1) (flw S j (kp j) (D j) (A j) (B j))) kn' nu' re' ∧ CU (c + 1) S0 ch' (rn kp D A B (c - (j + 1)) (j + 1) (flw S j (kp j) (D j) (A j) (B j)))
      have hRj := hR j (by omega)
      cases eS : S j with
      | none =>
        rw [eS] at hRj
        have hRj : re j = 0 := hRj
        rw [if_pos hRj]
        have ef : flw S j (kp j) (D j) (A j) (B j) = S := by unfold flw; rw [eS]
        rw [ef]
        exact ih (j + 1) (by omega) (by omega) hS hR hU
      | some q =>
        rw [eS] at hRj
        rw [if_neg (by rw [hRj.1]; decide)]
        have wj := w j hlt
        rw [← hd j hlt, ← ha j hlt, ← hb j hlt] at wj ⊢
        obtain ⟨kn', nu', re', ch', h1, h2, h3⟩ := m_follow (n := n) hn hc hlt (hf j hlt) wj hS eS hR hU
        rw [h1]
        simp only [Option.bind_some]
        exact ih (j + 1) (by omega) (by omega) (flw_T wj hS) h2 h3
theorem RelM_cong {T : FS} {kn nu re : Nat → Int32} (h : RelM c S kn nu re) (e : ∀ j, j < c + 1 → S j = T j) : RelM c T kn nu re := fun i hi => by
  rw [← e i (by omega)]; exact h i hi
theorem m_fold70 (hn : 300 < n) (hc : c ≤ 24) (hs : fs 1 = nI c) (hf : ∀ i, i < c → fk (100 + i) = nI (kp i)) (hd : ∀ i, i < c → fd (100 + i) = D i) (ha : ∀ i, i < c → fa (100 + i) = A i) (hb : ∀ i, i < c → fb (100 + i) = B i) (w : WP c kp D A B) :
    ∀ (m : Nat) {S : FS} {kn nu re : Nat → Int32} (k : Nat), mu S = m → m + 2 < k → TS S → RelM c S kn nu re →
    ∃ p kn' nu' re', f_X9_fold_70 n k fa fb fd fk kn nu re fs 1 = f_X9_fold_121 n n fa fb fd fk kn' nu' re' fs 0 0 0 ∧ RelM c (itn (rnd kp D A B c) p S) kn' nu' re' ∧ ∀ j, j < c + 1 → rnd kp D A B c (itn (rnd kp D A B c) p S) j = itn (rnd kp D A B c) p S j := by
  intro m
  induction m using Nat.strongRecOn with
  | _ m ih =>
    intro S kn nu re k hm hk hS hR
    obtain ⟨k, rfl⟩ : ∃ k', k = k' + 1 := ⟨k - 1, by omega⟩
    rw [f_X9_fold_70, if_neg (show ¬ (1 : Int32) = 0 by decide)]
    obtain ⟨kn', nu', re', ch', h1, h2, h3⟩ := m_fold84 (n := n) (S0 := S) (ch := 0) (by omega) hc hs hf hd ha hb w (fun f0_a' f0_b' f0_d' f0_kind' f0_known' f0_number' f0_reached' v0_changed' => f_X9_fold_70 n k f0_a' f0_b' f0_d' f0_kind' f0_known' f0_number' f0_reached' fs v0_changed') n 0 (by omega) (by omega) hS hR ⟨Nat.le_refl _, Or.inl ⟨rfl, fun _ _ => rfl⟩⟩
    rw [← pn_0] at h1
    rw [h1]
    rw [Nat.sub_zero] at h2 h3
    rcases h3.2 with h | h
    · obtain ⟨k, rfl⟩ : ∃ k', k = k' + 1 := ⟨k - 1, by omega⟩
      refine ⟨0, kn', nu', re', ?_, RelM_cong h2 h.2, h.2⟩
      rw [f_X9_fold_70, if_pos h.1, h.1]
    · have hlt : mu (rnd kp D A B c S) < m := by rw [← hm]; exact h.2
      rw [h.1]
      obtain ⟨p, kn2, nu2, re2, j1, j2, j3⟩ := ih (mu (rnd kp D A B c S)) hlt k rfl (by omega) (rn_T w c 0 (by omega) hS) h2
      exact ⟨p + 1, kn2, nu2, re2, j1, j2, j3⟩
theorem m_fold30 (v : Int32) {re : Nat → Int32} : ∀ (k j : Nat) {kn nu : Nat → Int32}, j ≤ 8 → 8 - j < k → (∀ r, r < j → kn r = b2i (decide (2 ≤ r)) ∧ nu r = 0) →
    ∃ kn' nu', f_X9_fold_30 n k fa fb fd fk kn nu re fs v (nI j) = f_X9_fold_70 n n fa fb fd fk kn' nu' re fs 1 ∧ ∀ r, r < 8 → kn' r = b2i (decide (2 ≤ r)) ∧ nu' r = 0 := by
  intro k
  induction k with
  | zero => intro j kn nu h1 h2; omega
  | succ k ih =>
    intro j kn nu hj hk h
    rw [f_X9_fold_30]
    by_cases e : j = 8
    · rw [if_pos ((le8 (by omega)).mpr (by omega))]
      exact ⟨_, _, rfl, fun r hr => h r (by omega)⟩
    · have hlt : j < 8 := by omega
      rw [if_neg (fun z => e (by have := (le8 (by omega)).mp z; omega))]
      unfold f_X9_fold_51
      have g208 : ∀ {α : Type} {x : Option α}, gd (nI j) 208 x = x := pn_gd (by omega) (by omega)
      simp only [g208, pn_s]
      rw [nI_clamp (by omega), nb_v (Or.inl rfl), nb_v (Or.inr rfl)]
      have step : ∀ b, b = b2i (decide (2 ≤ j)) → ∀ r, r < j + 1 → upd kn j b r = b2i (decide (2 ≤ r)) ∧ upd nu j 0 r = 0 := fun b hb r hr => by
        by_cases z : r = j
        · rw [z, upd_s, upd_s]; exact ⟨hb, rfl⟩
        · rw [upd_n _ z, upd_n _ z]; exact h r (by omega)
      by_cases z : j ≤ 1
      · rw [if_pos ((le1 (by omega)).mpr z)]
        exact ih (j + 1) (by omega) (by omega) (step 0 (by rw [decide_eq_false (by omega)]; rfl))
      · rw [if_neg (fun t => z ((le1 (by omega)).mp t))]
        exact ih (j + 1) (by omega) (by omega) (step 1 (by rw [decide_eq_true (by omega)]; rfl))
theorem m_fold2 (v : Int32) {kn nu : Nat → Int32} : ∀ (k j : Nat) {re : Nat → Int32}, j ≤ 26 → 26 - j < k → (∀ r, r < j → re r = 0) →
    ∃ re', f_X9_fold_2 n k fa fb fd fk kn nu re fs v (nI j) = f_X9_fold_30 n n fa fb fd fk kn nu re' fs v 0 ∧ ∀ r, r < 26 → re' r = if r = 0 then 1 else 0 := by
  intro k
  induction k with
  | zero => intro j re h1 h2; omega
  | succ k ih =>
    intro j re hj hk h
    rw [f_X9_fold_2]
    by_cases e : j = 26
    · rw [if_pos ((le26 (by omega)).mpr (by omega)), show (0 : Int32) = nI 0 from pn_0, pn_gd (by omega) (by omega), nI_clamp (by omega), nb_v (Or.inr rfl)]
      refine ⟨_, rfl, fun r hr => ?_⟩
      by_cases z : r = 0
      · rw [z, upd_s, if_pos rfl]
      · rw [upd_n _ z, if_neg z]; exact h r (by omega)
    · have hlt : j < 26 := by omega
      rw [if_neg (fun z => e (by have := (le26 (by omega)).mp z; omega)), pn_gd hlt (by omega), nI_clamp (by omega), pn_s, nb_v (Or.inl rfl)]
      refine ih (j + 1) (by omega) (by omega) (fun i hi => ?_)
      by_cases e2 : i = j
      · rw [e2, upd_s]
      · rw [upd_n _ e2]; exact h i (by omega)
theorem m_fold_flow (hn : 300 < n) (hc : c ≤ 24) (hs : fs 1 = nI c) (hf : ∀ i, i < c → fk (100 + i) = nI (kp i)) (hd : ∀ i, i < c → fd (100 + i) = D i) (ha : ∀ i, i < c → fa (100 + i) = A i) (hb : ∀ i, i < c → fb (100 + i) = B i) (w : WP c kp D A B) {kn nu re : Nat → Int32} (v : Int32) :
    ∃ p kn' nu' re', f_X9_fold n fa fb fd fk kn nu re fs v = f_X9_fold_121 n n fa fb fd fk kn' nu' re' fs 0 0 0 ∧ RelM c (itn (rnd kp D A B c) p S00) kn' nu' re' ∧ ∀ j, j < c + 1 → rnd kp D A B c (itn (rnd kp D A B c) p S00) j = itn (rnd kp D A B c) p S00 j := by
  unfold f_X9_fold
  obtain ⟨re1, h1, h2⟩ := m_fold2 (n := n) (fa := fa) (fb := fb) (fd := fd) (fk := fk) (fs := fs) (kn := kn) (nu := nu) v n 0 (re := re) (by omega) (by omega) (fun r hr => by omega)
  rw [← pn_0] at h1
  rw [h1]
  obtain ⟨kn1, nu1, j1, j2⟩ := m_fold30 (n := n) (fa := fa) (fb := fb) (fd := fd) (fk := fk) (fs := fs) (re := re1) v n 0 (kn := kn) (nu := nu) (by omega) (by omega) (fun r hr => by omega)
  rw [← pn_0] at j1
  rw [j1]
  have hmu := mu_bd S00
  refine m_fold70 hn hc hs hf hd ha hb w (mu S00) n rfl (by omega) S00_T ?_
  intro i hi
  unfold S00 cm
  by_cases z : i = 0
  · subst z
    rw [if_pos rfl]
    refine ⟨by rw [h2 0 (by omega), if_pos rfl], fun r hr => ?_⟩
    have := j2 r hr
    rw [Nat.mul_zero, Nat.zero_add, this.1, this.2]
    show _ = b2i (q0 r).isSome ∧ ∀ v, q0 r = some v → _
    unfold q0
    by_cases y : 2 ≤ r
    · rw [if_pos ⟨y, hr⟩, decide_eq_true y]
      exact ⟨rfl, fun v hv => Option.some.inj hv⟩
    · rw [if_neg (fun t => y t.1), decide_eq_false y]
      exact ⟨rfl, fun v hv => by cases hv⟩
  · rw [if_neg z]
    show re1 i = 0
    rw [h2 i (by omega), if_neg z]
end FM3
