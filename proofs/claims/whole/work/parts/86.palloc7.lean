section ALM
variable {n L Ls c : Nat} {kp : Nat → Nat} {hm : Nat → Nat} {ho ga gb gd9 gk fs : Nat → Int32} {D A B : Nat → Int32}
theorem m_al144 {h : Nat} (hn : 100 < n) (hc : c ≤ 24) (w : WP c kp D A B) (hJ : ∀ i, i < c → goK (kp i) = true → ∃ t, t < c ∧ D i = nI t) {dn se pl es ea eb : Nat → Int32} (hpl : ∀ i, i < c → pl i = nI (stN kp D A B hm i)) (hes : es 3 = nI (stN kp D A B hm c)) (v tk al sl : Int32) : ∀ (k x : Nat), x ≤ stN kp D A B hm c → stN kp D A B hm c - x < k →
    f_X9_allocate_144 n k ea eb (va_cpy (dFin kp D A B hm h c) (rowD kp D A B hm h 300 gd9 c) 0 300 x) dn ho (rowK kp D A B hm 300 gk c) pl se es v tk al sl (nI (300 + x)) = some (sl, va_cpy ea ea 300 100 (stN kp D A B hm c), va_cpy eb eb 300 100 (stN kp D A B hm c), va_cpy (va_cpy (dFin kp D A B hm h c) (rowD kp D A B hm h 300 gd9 c) 0 300 (stN kp D A B hm c)) (va_cpy (dFin kp D A B hm h c) (rowD kp D A B hm h 300 gd9 c) 0 300 (stN kp D A B hm c)) 300 100 (stN kp D A B hm c), dn, ho, va_cpy (rowK kp D A B hm 300 gk c) (rowK kp D A B hm 300 gk c) 300 100 (stN kp D A B hm c), pl, se, upd es 1 (nI (stN kp D A B hm c)), v, 1, sl) := by
  have h96 := st_4 (kp := kp) (D := D) (A := A) (B := B) (hm := hm) c
  intro k
  induction k with
  | zero => intro x h1 h2; omega
  | succ k ih =>
    intro x hx hk
    have h3 : (3 : Int32) = nI 3 := by decide
    have a300 : ∀ m, (300 : Int32) + nI m = nI (300 + m) := fun m => nI_add 300 m
    rw [f_X9_allocate_144]
    by_cases e : x = stN kp D A B hm c
    · subst e
      have hcp := m_copy (n := n) (p := 3) (q := 1) (c := stN kp D A B hm c) (fa := ea) (fb := eb) (fd := va_cpy (dFin kp D A B hm h c) (rowD kp D A B hm h 300 gd9 c) 0 300 (stN kp D A B hm c)) (fk := rowK kp D A B hm 300 gk c) (fs := es) (by omega) (by omega) (by omega) hes (by omega) (by omega)
      have hcp : f_X9_copy n ea eb (va_cpy (dFin kp D A B hm h c) (rowD kp D A B hm h 300 gd9 c) 0 300 (stN kp D A B hm c)) (rowK kp D A B hm 300 gk c) es 3 1 = _ := hcp
      rw [hcp, h3, pn_gd (by omega) (by omega), nI_clamp (by omega), hes, a300, if_pos (nI_le (Nat.le_refl _) (by omega))]
      rfl
    · have hlt : x < stN kp D A B hm c := by omega
      obtain ⟨kk, k1, k2, k3⟩ := row_kind (h := h) (base := 300) (fk := gk) (fd := gd9) w hlt
      have g : ∀ {α : Type} {y : Option α}, gd (nI (300 + x)) 400 y = y := pn_gd (by omega) (by omega)
      have hkb : rowK kp D A B hm 300 gk c (300 + x) = rowK kp D A B hm 0 (fun _ => 0) c x := emR_shift c x hlt
      have hdb : rowD kp D A B hm h 300 gd9 c (300 + x) = rowD kp D A B hm h 0 (fun _ => 0) c x := emR_shift c x hlt
      have hnk : nN (rowK kp D A B hm 0 (fun _ => 0) c x) = kk := by rw [← hkb, k2]; exact nI_clamp (by omega)
      have hat : va_cpy (dFin kp D A B hm h c) (rowD kp D A B hm h 300 gd9 c) 0 300 x (300 + x) = rowD kp D A B hm h 300 gd9 c (300 + x) := pk_cpy_out (by omega)
      have hnx : upd (va_cpy (dFin kp D A B hm h c) (rowD kp D A B hm h 300 gd9 c) 0 300 x) (300 + x) (dFin kp D A B hm h c x) = va_cpy (dFin kp D A B hm h c) (rowD kp D A B hm h 300 gd9 c) 0 300 (x + 1) := by
        have := cpy_s (dFin kp D A B hm h c) (rowD kp D A B hm h 300 gd9 c) 0 300 x
        rw [Nat.zero_add] at this
        exact this
      rw [h3, pn_gd (show 3 < 4 by omega) (by omega), nI_clamp (show 3 < 2 ^ 31 by omega), hes, a300, if_neg (nI_ge (by omega) (by omega))]
      unfold f_X9_allocate_200
      simp only [g, pn_s]
      rw [nI_clamp (show 300 + x < 2 ^ 31 by omega), k2, m_goes _ k1, hat]
      simp only [Option.bind_some]
      have hih := ih (x + 1) (by omega) (by omega)
      rw [← hnx] at hih
      cases eg : goK kk with
      | false =>
        rw [if_pos (show b2i false = 0 by decide)]
        have : dFin kp D A B hm h c x = rowD kp D A B hm h 300 gd9 c (300 + x) := by unfold dFin; rw [hnk, eg, if_neg (by decide), hdb]
        rw [this] at hih
        exact hih
      | true =>
        obtain ⟨i, i1, i2, i3⟩ := k3 eg
        obtain ⟨t, t1, t2⟩ := hJ i i1 (by rw [← i2]; exact eg)
        have hnt : nN (nI t) = t := nI_clamp (by omega)
        have : dFin kp D A B hm h c x = nI (stN kp D A B hm t) := by unfold dFin; rw [hnk, eg, if_pos rfl, ← hdb, i3, t2, hnt]
        rw [this] at hih
        rw [if_neg (show ¬ b2i true = 0 by decide), i3, t2, pn_gd (by omega) (by omega), nI_clamp (show t < 2 ^ 31 by omega), hpl t t1]
        exact hih
theorem m_al100 {K : Nat} (hn : 100 < n) (hc : c ≤ 24) (hK : 2 ≤ K) (w : WP c kp D A B) (hs : fs 1 = nI c) (hk0 : ∀ i, i < c → gk (100 + i) = nI (kp i)) (hd0 : ∀ i, i < c → gd9 (100 + i) = D i) (ha0 : ∀ i, i < c → ga (100 + i) = A i) (hb0 : ∀ i, i < c → gb (100 + i) = B i) (hH : RelN hm 8 ho) {dn se : Nat → Int32} (v tk al sl : Int32) : ∀ (k i : Nat) {pl es : Nat → Int32}, i ≤ c → c - i < k → es 3 = nI (stN kp D A B hm i) → (∀ x, x ≠ 3 → es x = fs x) → (∀ j, j < i → pl j = nI (stN kp D A B hm j)) →
    ∃ pl' es', f_X9_allocate_100 n k (rowA kp D A B hm (K - 2) 300 ga i) (rowB kp D A B hm (K - 2) 300 gb i) (rowD kp D A B hm (K - 2) 300 gd9 i) dn ho (rowK kp D A B hm 300 gk i) pl se es v tk al sl (nI K) (nI i) = f_X9_allocate_144 n n (rowA kp D A B hm (K - 2) 300 ga c) (rowB kp D A B hm (K - 2) 300 gb c) (rowD kp D A B hm (K - 2) 300 gd9 c) dn ho (rowK kp D A B hm 300 gk c) pl' se es' v tk al sl 300 ∧ es' 3 = nI (stN kp D A B hm c) ∧ (∀ x, x ≠ 3 → es' x = fs x) ∧ ∀ j, j < c → pl' j = nI (stN kp D A B hm j) := by
  intro k
  induction k with
  | zero => intro i pl es h1 h2; omega
  | succ k ih =>
    intro i pl es hi hkk he3 hes hpl
    have h4 := st_4 (kp := kp) (D := D) (A := A) (B := B) (hm := hm) i
    rw [f_X9_allocate_100, show (1 : Int32) = nI 1 from pn_1, pn_gd (show 1 < 4 by omega) (by omega), nI_clamp (show 1 < 2 ^ 31 by omega), hes 1 (by omega), hs, ← pn_1]
    by_cases e : i = c
    · subst e
      rw [if_pos (nI_le (Nat.le_refl _) (by omega))]
      exact ⟨pl, es, rfl, he3, hes, hpl⟩
    · have hlt : i < c := by omega
      have k2 : nI K - (2 : Int32) = nI (K - 2) := nI_sub (b := 2) hK
      have h3 : (3 : Int32) = nI 3 := by decide
      have lo : ∀ {va vb vo vd f : Nat → Int32}, emR kp D A B hm 300 va vb vo vd f i (100 + i) = f (100 + i) := emR_lo i (by omega)
      obtain ⟨es', r1, r2, r3⟩ := m_rewrite (c := c) (k := kp i) (hm := hm) (h := K - 2) (ho := ho) (n := stN kp D A B hm i) (i := i) (ea := rowA kp D A B hm (K - 2) 300 ga i) (eb := rowB kp D A B hm (K - 2) 300 gb i) (ed := rowD kp D A B hm (K - 2) 300 gd9 i) (ek := rowK kp D A B hm 300 gk i) (es := es) (A := A i) (B := B i) (D := D i) (by omega) (by omega) he3 (lo.trans (hk0 i hlt)) (lo.trans (ha0 i hlt)) (lo.trans (hb0 i hlt)) (lo.trans (hd0 i hlt)) (w i hlt) hH
      rw [if_neg (nI_ge hlt (by omega)), h3, pn_gd (show 3 < 4 by omega) (by omega), pn_gd (show i < 26 by omega) (by omega), k2, r1, nI_clamp (show i < 2 ^ 31 by omega), nI_clamp (show 3 < 2 ^ 31 by omega), he3]
      simp only [Option.bind_some, pn_s]
      exact ih (i + 1) (by omega) (by omega) r2 (fun x hx => by rw [r3 x hx]; exact hes x hx) (fun j hj => by
        by_cases z : j = i
        · rw [z, upd_s]
        · rw [upd_n _ z]; exact hpl j (by omega))
end ALM
theorem ex_cong {kp hm : Nat → Nat} {D A B D' A' B' : Nat → Int32} {i : Nat} (h1 : D' i = D i) (h2 : A' i = A i) (h3 : B' i = B i) : exN kp D' A' B' hm i = exN kp D A B hm i := by
  show exB (slX hm (raK (kp i)) (A' i)) (slX hm (rbK (kp i)) (B' i)) (slX hm (wrK (kp i)) (D' i)) = exB (slX hm (raK (kp i)) (A i)) (slX hm (rbK (kp i)) (B i)) (slX hm (wrK (kp i)) (D i))
  rw [h1, h2, h3]
theorem smN_cong {f g : Nat → Nat} : ∀ (n : Nat), (∀ i, i < n → f i = g i) → smN f n = smN g n
  | 0, _ => rfl
  | n + 1, h => by
    have h1 := smN_cong n (fun i hi => h i (Nat.lt_succ_of_lt hi))
    have h2 := h n (Nat.lt_succ_self n)
    show smN f n + f n = smN g n + g n
    rw [h1, h2]
theorem st_cong {c : Nat} {kp hm : Nat → Nat} {D A B D' A' B' : Nat → Int32} (h : ∀ i, i < c → D' i = D i ∧ A' i = A i ∧ B' i = B i) (i : Nat) (hi : i ≤ c) : stN kp D' A' B' hm i = stN kp D A B hm i :=
  smN_cong i (fun j hj => ex_cong (h j (Nat.lt_of_lt_of_le hj hi)).1 (h j (Nat.lt_of_lt_of_le hj hi)).2.1 (h j (Nat.lt_of_lt_of_le hj hi)).2.2)
section ALB
variable {n L Ls c : Nat} {kp : Nat → Nat} {fa fb fd fk ga gb gd9 gk fs : Nat → Int32}
theorem m_al64 {dn ho pl se : Nat → Int32} {K sl : Nat} (v tk : Int32) (hsl : sl < 100) : f_X9_allocate_64 n ga gb gd9 dn ho gk pl se fs v tk 0 (nI sl) (nI K) 0 0 = if sl = 0 then f_X9_allocate_90 n ga gb gd9 dn ho gk pl se fs 0 tk 0 (nI sl) (nI K) else ((f_X9_settle n ga gb gd9 dn ho gk se fs (nI sl) (nI K - (2 : Int32))).bind (fun u25 => f_X9_allocate_90 n ga gb gd9 u25.2.1 u25.2.2.1 gk pl u25.2.2.2.1 fs 0 tk 0 u25.2.2.2.2 (nI K))) := by
  unfold f_X9_allocate_64
  have ht : f_X9_throwing v 0 0 = some (0, 0) := m_throwing v false false
  have l0 : (nI sl ≤ 0) ↔ sl = 0 := by
    constructor
    · intro hh
      by_cases z : sl = 0
      · exact z
      · exact absurd hh (nI_nle (by omega) (by omega))
    · intro hh; rw [hh]; decide
  rw [ht]
  simp only [Option.bind_some, l0]
  rw [if_pos trivial]
theorem sl_pos {sl : Nat} (h : sl < 100) : (nI sl ≤ 0) ↔ sl = 0 := by
  constructor
  · intro hh
    by_cases z : sl = 0
    · exact z
    · exact absurd hh (nI_nle (by omega) (by omega))
  · intro hh; rw [hh]; decide
/-- what both sides hold behind an allocation -/
def AlFin (c : Nat) (kp : Nat → Nat) (fd fa fb : Nat → Int32) (hm : Nat → Nat) (h : Nat) (cq : Nat) (ea eb ed ek ga gb gd9 gk ga' gb' gd' gk' : Nat → Int32) : Prop :=
  cq = stN kp fd fa fb hm c ∧ (∀ x, x < cq → ea x = rowA kp fd fa fb hm h 0 (fun _ => 0) c x ∧ eb x = rowB kp fd fa fb hm h 0 (fun _ => 0) c x ∧ ed x = dFin kp fd fa fb hm h c x ∧ ek x = rowK kp fd fa fb hm 0 (fun _ => 0) c x) ∧
  Both cq (fun q => nN (ek q)) ea eb ed ek ga' gb' gd' gk' ∧ FrP ga ga' ∧ FrP gb gb' ∧ FrP gd9 gd' ∧ FrP gk gk'
theorem al_end {hm : Nat → Nat} {K : Nat} (hn : 300 < n) (hc : c ≤ 24) (hK : 2 ≤ K) (hK8 : K ≤ 8) (hLs : c ≤ Ls) (hLs2 : Ls < 2 ^ 31) (hL : 96 ≤ L) (hLL : L < 2 ^ 31) (hs : fs 1 = nI c) (w : WP c kp fd fa fb) (hB : Both c kp fa fb fd fk ga gb gd9 gk) (hJ : ∀ i, i < c → goK (kp i) = true → ∃ t, t < c ∧ fd i = nI t)
    {hoC hoM : Nat → Int32} (hC : RelN hm 8 hoC) (hM : RelN hm 8 hoM) (sa sb sd sk st pl dn se : Nat → Int32) (vs v tk al sl : Int32) :
    ∃ cq sa' sb' sd' sk' st' ea eb ed ek ga' gb' gd' gk' pl' fs',
      f_X0_rewrite n Ls L hoC sa sb sd sk st fa fb fd fk vs (nI c) (nI K) = some (sa', sb', sd', sk', st', ea, eb, ed, ek, nI c, nI cq) ∧
      f_X9_allocate_90 n ga gb gd9 dn hoM gk pl se fs v tk al sl (nI K) = some (sl, ga', gb', gd', dn, hoM, gk', pl', se, fs', v, 1, sl) ∧
      fs' 1 = nI cq ∧ (∀ x, x ≠ 1 → x ≠ 3 → fs' x = fs x) ∧ AlFin c kp fd fa fb hm (K - 2) cq ea eb ed ek ga gb gd9 gk ga' gb' gd' gk' := by
  have h96 := st_4 (kp := kp) (D := fd) (A := fa) (B := fb) (hm := hm) c
  have hcp := s_copyFrom (n := n) (L := Ls) (L1 := L) (fa := sa) (fb := sb) (fd := sd) (fk := sk) fa fb fd fk (c := c) vs hLs (by omega) hLs2 hLL (by omega)
  -- the source copy holds the program
  have eqs : ∀ X Y : Nat → Int32, ∀ i, i < c → va_cpy X Y 0 0 c i = X i := fun X Y i hi => cpy_lo X Y hi
  have wS : WP c kp (va_cpy fd sd 0 0 c) (va_cpy fa sa 0 0 c) (va_cpy fb sb 0 0 c) := fun i hi => by rw [eqs _ _ i hi, eqs _ _ i hi, eqs _ _ i hi]; exact w i hi
  have hJS : ∀ i, i < c → goK (kp i) = true → ∃ t, t < c ∧ va_cpy fd sd 0 0 c i = nI t := fun i hi hg => by rw [eqs _ _ i hi]; exact hJ i hi hg
  obtain ⟨st', r1⟩ := s_rw14 (n := n) (L := L) (Ls := Ls) (fa := fa) (fb := fb) (fd := fd) (fk := fk) (sa := va_cpy fa sa 0 0 c) (sb := va_cpy fb sb 0 0 c) (sd := va_cpy fd sd 0 0 c) (sk := va_cpy fk sk 0 0 c) (by omega) hc hK hK8 hLs hLs2 hL hLL (fun i hi => by rw [eqs _ _ i hi]; exact (hB i hi).1) wS hJS hC n 0 (st := st) (by omega) (by omega) (fun j hj => by omega)
  obtain ⟨pl', es', m1, m2, m3, m4⟩ := m_al100 (n := n) (ho := hoM) (ga := ga) (gb := gb) (gd9 := gd9) (gk := gk) (fs := fs) (dn := dn) (se := se) (by omega) hc hK w hs (fun i hi => (hB i hi).2.1) (fun i hi => (hB i hi).2.2.1) (fun i hi => (hB i hi).2.2.2.1) (fun i hi => (hB i hi).2.2.2.2) hM v tk al sl n 0 (pl := pl) (es := upd fs 3 0) (by omega) (by omega) (by rw [upd_s, show stN kp fd fa fb hm 0 = 0 from rfl]; exact pn_0) (fun x hx => upd_n _ hx) (fun j hj => by omega)
  have m5 := m_al144 (n := n) (ho := hoM) (gd9 := gd9) (gk := gk) (h := K - 2) (dn := dn) (se := se) (ea := rowA kp fd fa fb hm (K - 2) 300 ga c) (eb := rowB kp fd fa fb hm (K - 2) 300 gb c) (by omega) hc w hJ m4 m2 v tk al sl n 0 (by omega) (by omega)
  rw [cpy_0] at m5
  -- the copied source gives the same rows
  have cong : ∀ (i : Nat), i ≤ c → stN kp (va_cpy fd sd 0 0 c) (va_cpy fa sa 0 0 c) (va_cpy fb sb 0 0 c) hm i = stN kp fd fa fb hm i := st_cong (fun i hi => ⟨eqs _ _ i hi, eqs _ _ i hi, eqs _ _ i hi⟩)
  have congR : ∀ {va vb vo vd va' vb' vo' vd' f : Nat → Int32}, (∀ i, i < c → va' i = va i ∧ vb' i = vb i ∧ vo' i = vo i ∧ vd' i = vd i) → ∀ i, i ≤ c → emR kp (va_cpy fd sd 0 0 c) (va_cpy fa sa 0 0 c) (va_cpy fb sb 0 0 c) hm 0 va' vb' vo' vd' f i = emR kp fd fa fb hm 0 va vb vo vd f i := fun {va vb vo vd va' vb' vo' vd' f} hv i => by
    induction i with
    | zero => intro _; rfl
    | succ i ih =>
      intro hi
      obtain ⟨v1, v2, v3, v4⟩ := hv i (by omega)
      show emF (slX hm _ (va_cpy fa sa 0 0 c i)) (slX hm _ (va_cpy fb sb 0 0 c i)) (slX hm _ (va_cpy fd sd 0 0 c i)) (emR kp _ _ _ hm 0 va' vb' vo' vd' f i) (0 + stN kp _ _ _ hm i) (va' i) (vb' i) (vo' i) (vd' i) = emF _ _ _ (emR kp fd fa fb hm 0 va vb vo vd f i) (0 + stN kp fd fa fb hm i) (va i) (vb i) (vo i) (vd i)
      rw [ih (by omega), cong i (by omega), v1, v2, v3, v4, eqs _ _ i (by omega), eqs _ _ i (by omega), eqs _ _ i (by omega)]
  have cA : ∀ f, rowA kp (va_cpy fd sd 0 0 c) (va_cpy fa sa 0 0 c) (va_cpy fb sb 0 0 c) hm (K - 2) 0 f c = rowA kp fd fa fb hm (K - 2) 0 f c := fun f => congR (fun i hi => by show nI (hm (nN (va_cpy fa sa 0 0 c i)) - 8) = _ ∧ nI (hm (nN (va_cpy fb sb 0 0 c i)) - 8) = _ ∧ plX hm _ (va_cpy fa sa 0 0 c i) _ = _ ∧ _; rw [eqs _ _ i hi, eqs _ _ i hi]; exact ⟨rfl, rfl, rfl, rfl⟩) c (Nat.le_refl _)
  have cB : ∀ f, rowB kp (va_cpy fd sd 0 0 c) (va_cpy fa sa 0 0 c) (va_cpy fb sb 0 0 c) hm (K - 2) 0 f c = rowB kp fd fa fb hm (K - 2) 0 f c := fun f => congR (fun i hi => by show _ ∧ _ ∧ plX hm _ (va_cpy fb sb 0 0 c i) _ = _ ∧ nI (hm (nN (va_cpy fd sd 0 0 c i)) - 8) = _; rw [eqs _ _ i hi, eqs _ _ i hi]; exact ⟨rfl, rfl, rfl, rfl⟩) c (Nat.le_refl _)
  have cD : ∀ f, rowD kp (va_cpy fd sd 0 0 c) (va_cpy fa sa 0 0 c) (va_cpy fb sb 0 0 c) hm (K - 2) 0 f c = rowD kp fd fa fb hm (K - 2) 0 f c := fun f => congR (fun i hi => by show _ ∧ _ ∧ plX hm _ (va_cpy fd sd 0 0 c i) _ = _ ∧ _; rw [eqs _ _ i hi]; exact ⟨rfl, rfl, rfl, rfl⟩) c (Nat.le_refl _)
  have cK : ∀ f, rowK kp (va_cpy fd sd 0 0 c) (va_cpy fa sa 0 0 c) (va_cpy fb sb 0 0 c) hm 0 f c = rowK kp fd fa fb hm 0 f c := fun f => congR (fun i hi => ⟨rfl, rfl, rfl, rfl⟩) c (Nat.le_refl _)
  have cS : stN kp (va_cpy fd sd 0 0 c) (va_cpy fa sa 0 0 c) (va_cpy fb sb 0 0 c) hm c = stN kp fd fa fb hm c := cong c (Nat.le_refl _)
  have cF : ∀ x, x < stN kp fd fa fb hm c → dFin kp (va_cpy fd sd 0 0 c) (va_cpy fa sa 0 0 c) (va_cpy fb sb 0 0 c) hm (K - 2) c x = dFin kp fd fa fb hm (K - 2) c x := fun x hx => by
    unfold dFin
    rw [cK, cD]
    by_cases z : goK (nN (rowK kp fd fa fb hm 0 (fun _ => 0) c x)) = true
    · rw [if_pos z, if_pos z]
      obtain ⟨kk, k1, k2, k3⟩ := row_kind (h := K - 2) (base := 0) (fk := fun _ => 0) (fd := fun _ => 0) w hx
      rw [Nat.zero_add] at k2 k3
      have hnk : nN (rowK kp fd fa fb hm 0 (fun _ => 0) c x) = kk := by rw [k2]; exact nI_clamp (by omega)
      rw [hnk] at z
      obtain ⟨i, i1, i2, i3⟩ := k3 z
      obtain ⟨t, t1, t2⟩ := hJ i i1 (by rw [← i2]; exact z)
      rw [i3, t2, nN, nI_clamp (by omega), cong t (by omega)]
    · rw [if_neg z, if_neg z]
  rw [cA, cB, cD, cK, cS] at r1
  have z0 : stN kp (va_cpy fd sd 0 0 c) (va_cpy fa sa 0 0 c) (va_cpy fb sb 0 0 c) hm 0 = 0 := rfl
  have zA : rowA kp (va_cpy fd sd 0 0 c) (va_cpy fa sa 0 0 c) (va_cpy fb sb 0 0 c) hm (K - 2) 0 fa 0 = fa := rfl
  have zB : rowB kp (va_cpy fd sd 0 0 c) (va_cpy fa sa 0 0 c) (va_cpy fb sb 0 0 c) hm (K - 2) 0 fb 0 = fb := rfl
  have zD : rowD kp (va_cpy fd sd 0 0 c) (va_cpy fa sa 0 0 c) (va_cpy fb sb 0 0 c) hm (K - 2) 0 fd 0 = fd := rfl
  have zK : rowK kp (va_cpy fd sd 0 0 c) (va_cpy fa sa 0 0 c) (va_cpy fb sb 0 0 c) hm 0 fk 0 = fk := rfl
  rw [z0, zA, zB, zD, zK, ← pn_0] at r1
  refine ⟨stN kp fd fa fb hm c, va_cpy fa sa 0 0 c, va_cpy fb sb 0 0 c, va_cpy fd sd 0 0 c, va_cpy fk sk 0 0 c, st', rowA kp fd fa fb hm (K - 2) 0 fa c, rowB kp fd fa fb hm (K - 2) 0 fb c, va_cpy (dFin kp (va_cpy fd sd 0 0 c) (va_cpy fa sa 0 0 c) (va_cpy fb sb 0 0 c) hm (K - 2) c) (rowD kp fd fa fb hm (K - 2) 0 fd c) 0 0 (stN kp fd fa fb hm c), rowK kp fd fa fb hm 0 fk c, va_cpy (rowA kp fd fa fb hm (K - 2) 300 ga c) (rowA kp fd fa fb hm (K - 2) 300 ga c) 300 100 (stN kp fd fa fb hm c), va_cpy (rowB kp fd fa fb hm (K - 2) 300 gb c) (rowB kp fd fa fb hm (K - 2) 300 gb c) 300 100 (stN kp fd fa fb hm c), va_cpy (va_cpy (dFin kp fd fa fb hm (K - 2) c) (rowD kp fd fa fb hm (K - 2) 300 gd9 c) 0 300 (stN kp fd fa fb hm c)) (va_cpy (dFin kp fd fa fb hm (K - 2) c) (rowD kp fd fa fb hm (K - 2) 300 gd9 c) 0 300 (stN kp fd fa fb hm c)) 300 100 (stN kp fd fa fb hm c), va_cpy (rowK kp fd fa fb hm 300 gk c) (rowK kp fd fa fb hm 300 gk c) 300 100 (stN kp fd fa fb hm c), pl', upd es' 1 (nI (stN kp fd fa fb hm c)), ?_, ?_, upd_s _ _ _, ?_, rfl, ?_, ?_, ?_, ?_, ?_, ?_⟩
  · unfold f_X0_rewrite
    rw [hcp]
    simp only [Option.bind_some]
    have hcl : f_X6_clear (nI c) = some 0 := rfl
    rw [hcl]
    simp only [Option.bind_some]
    exact r1
  · unfold f_X9_allocate_90
    rw [show (3 : Int32) = nI 3 by decide, pn_gd (show 3 < 4 by omega) (by omega), nI_clamp (show 3 < 2 ^ 31 by omega)]
    rw [show rowA kp fd fa fb hm (K - 2) 300 ga 0 = ga from rfl, show rowB kp fd fa fb hm (K - 2) 300 gb 0 = gb from rfl, show rowD kp fd fa fb hm (K - 2) 300 gd9 0 = gd9 from rfl, show rowK kp fd fa fb hm 300 gk 0 = gk from rfl, ← pn_0] at m1
    rw [m1]
    rw [Nat.add_zero 300, show nI 300 = (300 : Int32) by decide +kernel] at m5
    exact m5
  · intro x x1 x3
    rw [upd_n _ x1, m3 x x3]
  · intro x hx
    rw [cpy_lo _ _ hx, cF x hx]
    exact ⟨row_base hx, row_base hx, rfl, row_base hx⟩
  · intro q hq
    have cp : ∀ f : Nat → Int32, va_cpy f f 300 100 (stN kp fd fa fb hm c) (100 + q) = f (300 + q) := fun f => by
      rw [pk_cpy_in (by omega) (by omega)]; congr 1; omega
    obtain ⟨kk, k1, k2, k3⟩ := row_kind (h := K - 2) (base := 0) (fk := fk) (fd := fd) w hq
    rw [Nat.zero_add] at k2
    rw [cp, cp, cp, cp, cpy_lo _ _ hq, cF q hq]
    have hnk : nN (rowK kp fd fa fb hm 0 fk c q) = kk := by rw [k2]; exact nI_clamp (by omega)
    have sK : rowK kp fd fa fb hm 300 gk c (300 + q) = rowK kp fd fa fb hm 0 fk c q := emR_shift c q hq
    have sA : rowA kp fd fa fb hm (K - 2) 300 ga c (300 + q) = rowA kp fd fa fb hm (K - 2) 0 fa c q := emR_shift c q hq
    have sB : rowB kp fd fa fb hm (K - 2) 300 gb c (300 + q) = rowB kp fd fa fb hm (K - 2) 0 fb c q := emR_shift c q hq
    have sD : va_cpy (dFin kp fd fa fb hm (K - 2) c) (rowD kp fd fa fb hm (K - 2) 300 gd9 c) 0 300 (stN kp fd fa fb hm c) (300 + q) = dFin kp fd fa fb hm (K - 2) c q := by
      rw [pk_cpy_in (by omega) (by omega), show 0 + (300 + q - 300) = q by omega]
    refine ⟨?_, ?_, sD, sA, sB⟩
    · show rowK kp fd fa fb hm 0 fk c q = nI (nN (rowK kp fd fa fb hm 0 fk c q))
      rw [hnk, k2]
    · rw [sK]
      show rowK kp fd fa fb hm 0 fk c q = nI (nN (rowK kp fd fa fb hm 0 fk c q))
      rw [hnk, k2]
  · intro x hx
    rw [pk_cpy_out (by omega)]
    exact emR_lo c (by omega)
  · intro x hx
    rw [pk_cpy_out (by omega)]
    exact emR_lo c (by omega)
  · intro x hx
    rw [pk_cpy_out (by omega), pk_cpy_out (by omega)]
    exact emR_lo c (by omega)
  · intro x hx
    rw [pk_cpy_out (by omega)]
    exact emR_lo c (by omega)
end ALB
