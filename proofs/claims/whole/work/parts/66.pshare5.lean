/-! SHARE: one instruction in the reference. -/
def SM (s : HV) (bb : Nat) (held vK vO vW : Nat → Int32) : Prop := HOK s ∧ (∀ r, r < 8 → held r = nI (bb + s.1 r)) ∧ RelV s.2.2 s.2.1 bb vK vO vW
theorem upd_upd (f : Nat → Int32) (i : Nat) (x y : Int32) : upd (upd f i x) i y = upd f i y := by
  funext j
  by_cases h : j = i
  · rw [h, upd_s, upd_s]
  · rw [upd_n _ h, upd_n _ h, upd_n _ h]
theorem tb_of {k : Nat} : tbK k = true ↔ (k = 1 ∨ k = 3 ∨ k = 4 ∨ k = 5) := by
  unfold tbK
  simp only [Bool.or_eq_true, beq_iff_eq]
  omega
section SHM
variable {n c i k bb : Nat} {s : HV} {held vK vO vW fa fb fd fk : Nat → Int32}
theorem m_332 (hi : i < 24) {rd g kk : Nat} (hk : k < 15) (hkk : kk < 15) (hfk : fk (100 + i) = nI kk) (hd : rd < 8) (o : Bool) (v w : Int32) :
    f_X9_shared_332 n fa fb fd held fk vK vO vW v w (nI i) (nI k) (b2i o) (nI (bb + g)) (nI rd) = some (b2i (o || !(kk == k)), fa, fb, fd, upd held rd (nI (bb + g)), fk, vK, vO, vW, v) := by
  unfold f_X9_shared_332
  rw [pn_gd hd (by omega), pn_h, pn_gd (by omega) (by omega), nI_clamp (show 100 + i < 2 ^ 31 by omega), hfk, nI_clamp (by omega)]
  cases o with
  | true => rfl
  | false =>
    rw [if_pos (show b2i false = 0 by decide)]
    by_cases z : kk = k
    · rw [if_pos (by rw [z]), z]; simp [b2i]
    · rw [if_neg (fun t => z (nIj t (by omega) (by omega)))]
      have : (kk == k) = false := by simp [z]
      rw [this]
      rfl
theorem m_shared (hn : 256 < n) (hi : i < 24) (hf : fk (100 + i) = nI k) (w : WI c k (fd (100 + i)) (fa (100 + i)) (fb (100 + i))) (hs : SM s bb held vK vO vW) (hnv : bb + s.2.1 < 256) :
    ∃ held' vK' vO' vW', f_X9_shared n fa fb fd held fk vK vO vW (nI (bb + s.2.1)) (nI bb) (nI i) = some (b2i (shC s k (fd (100 + i)) (fa (100 + i)) (fb (100 + i))), upd fa (100 + i) (shA s k (fd (100 + i)) (fa (100 + i)) (fb (100 + i))), upd fb (100 + i) (shB s k (fd (100 + i)) (fa (100 + i)) (fb (100 + i))), upd fd (100 + i) (shD s k (fd (100 + i)) (fa (100 + i)) (fb (100 + i))), held', upd fk (100 + i) (nI (shK s k (fd (100 + i)) (fa (100 + i)) (fb (100 + i)))), vK', vO', vW', nI (bb + (shN s k (fd (100 + i)) (fa (100 + i)) (fb (100 + i))).2.1)) ∧ SM (shN s k (fd (100 + i)) (fa (100 + i)) (fb (100 + i))) bb held' vK' vO' vW' := by
  have hk : k < 15 := by have := w.1; omega
  have hk12 := w.1
  generalize ha0 : fa (100 + i) = a at w ⊢
  generalize hb0 : fb (100 + i) = b at w ⊢
  generalize hd0 : fd (100 + i) = d at w ⊢
  have g : ∀ {α : Type} {x : Option α}, gd (nI (100 + i)) 400 x = x := pn_gd (by omega) (by omega)
  have hcl : (nI (100 + i)).toNatClampNeg = 100 + i := nI_clamp (by omega)
  have hh : ∀ r, r < 8 → held r = nI ((fun r => bb + s.1 r) r) ∧ (fun r => bb + s.1 r) r < 2 ^ 31 := fun r hr => ⟨hs.2.1 r hr, by have := hs.1.1 r hr; show bb + s.1 r < _; omega⟩
  have hlow : ∀ v, v < 1000 → f_X9_lowest n held (nI (bb + v)) = some (oI (lw s.1 v)) := fun v hv => by
    rw [m_low (by omega) (by omega) hh]
    rw [lwG_shift (h := s.1) (b := bb) 8 0 (fun r _ _ => rfl)]
  have n13 : (k == 13) = false := by simp; omega
  have n14 : (k == 14) = false := by simp; omega
  have e0 : f_X9_shared n fa fb fd held fk vK vO vW (nI (bb + s.2.1)) (nI bb) (nI i) = f_X9_shared_47 n fa fb fd held fk vK vO vW (nI (bb + s.2.1)) (nI bb) (nI i) (nI k) (shA1 s.1 k a) := by
    unfold f_X9_shared
    rw [pn_h]
    simp only [g, hcl]
    rw [hf, m_readsA k hk, n14, Bool.or_false, ha0]
    simp only [Option.bind_some]
    unfold shA1
    cases e : raK k with
    | false => rfl
    | true =>
      obtain ⟨r, h1, h2⟩ := w.2.2.1 e
      rw [if_neg (show ¬ b2i true = 0 by decide), h2, pn_gd h1 (by omega), nI_clamp (by omega), hs.2.1 r h1, hlow _ (by have := hs.1.1 r h1; omega), nN_nI h1]
      rfl
  have e1 : f_X9_shared_47 n fa fb fd held fk vK vO vW (nI (bb + s.2.1)) (nI bb) (nI i) (nI k) (shA1 s.1 k a) = f_X9_shared_85 n fa fb fd held fk vK vO vW (nI (bb + s.2.1)) (nI bb) (nI i) (nI k) (shA1 s.1 k a) (shB1 s.1 k b) := by
    unfold f_X9_shared_47
    rw [pn_h]
    simp only [g, hcl]
    rw [m_readsB k hk, hb0]
    simp only [Option.bind_some]
    unfold shB1
    cases e : rbK k with
    | false => rfl
    | true =>
      obtain ⟨r, h1, h2⟩ := w.2.2.2.1 e
      rw [if_neg (show ¬ b2i true = 0 by decide), h2, pn_gd h1 (by omega), nI_clamp (by omega), hs.2.1 r h1, hlow _ (by have := hs.1.1 r h1; omega), nN_nI h1]
      rfl
  have e2 : f_X9_shared_85 n fa fb fd held fk vK vO vW (nI (bb + s.2.1)) (nI bb) (nI i) (nI k) (shA1 s.1 k a) (shB1 s.1 k b) = f_X9_shared_119 n fa fb fd held fk vK vO vW (nI (bb + s.2.1)) (nI bb) (nI i) (nI k) (shA1 s.1 k a) (shB1 s.1 k b) (b2i (!(decide (shA1 s.1 k a = a) && decide (shB1 s.1 k b = b)))) := by
    unfold f_X9_shared_85
    rw [pn_h]
    simp only [g, hcl]
    rw [ha0, hb0]
    by_cases z1 : shA1 s.1 k a = a
    · by_cases z2 : shB1 s.1 k b = b
      · rw [if_pos z1, if_pos z2, decide_eq_true z1, decide_eq_true z2]; rfl
      · rw [if_pos z1, if_neg z2, decide_eq_true z1, decide_eq_false z2]; rfl
    · rw [if_neg z1, decide_eq_false z1]; rfl
  rw [e0, e1, e2]
  generalize ho : (!(decide (shA1 s.1 k a = a) && decide (shB1 s.1 k b = b))) = o
  unfold f_X9_shared_119
  rw [pn_h]
  simp only [g, hcl]
  rw [m_writes k hk, n13, Bool.or_false]
  simp only [Option.bind_some]
  have ok := shN_ok (s := s) w hs.1
  -- the flag where nothing but the reads was replaced
  have hflag : shK s k d a b = k → shD s k d a b = d → shA s k d a b = shA1 s.1 k a → shB s k d a b = shB1 s.1 k b → shC s k d a b = o := fun c1 c2 c3 c4 => by
    unfold shC
    rw [c1, c2, c3, c4, ← ho]
    simp
  cases ew : wrK k with
  | false =>
    have eh : had s k d a b = false := by unfold had; rw [ew]; rfl
    have c1 : shK s k d a b = k := by unfold shK; rw [eh, ew]; simp
    have c2 : shD s k d a b = d := by unfold shD; rw [eh]; simp
    have c3 : shA s k d a b = shA1 s.1 k a := by unfold shA; rw [eh, ew]; simp
    have c4 : shB s k d a b = shB1 s.1 k b := by unfold shB; rw [eh, ew]; simp
    have c5 : shN s k d a b = s := by unfold shN; rw [ew]; simp
    rw [if_pos (show b2i false = 0 by decide), gb_in (b2i_01 _), hflag c1 c2 c3 c4, c1, c2, c3, c4, c5, upd_same hd0.symm, upd_same hf.symm]
    exact ⟨_, _, _, _, rfl, hs⟩
  | true =>
    obtain ⟨rd, hd1, rfl⟩ := w.2.1 ew
    have hk0 : ¬ k = 0 := fun z => by rw [z] at ew; revert ew; decide
    rw [if_neg (show ¬ b2i true = 0 by decide)]
    have haR : k = 2 ∨ arK k = true → ∃ r, r < 8 ∧ shA1 s.1 k a = nI r := fun z => by
      have hra : raK k = true := by
        rcases z with z | z
        · rw [z]; decide
        · exact (ar_of k hk z).1
      obtain ⟨x, h1, h2, _⟩ := shA1_reg (hv := s.1) hra (w.2.2.1 hra)
      exact ⟨x, h1, h2⟩
    have hbR : arK k = true → ∃ r, r < 8 ∧ shB1 s.1 k b = nI r := fun z => by
      have hrb := (ar_of k hk z).2.1
      obtain ⟨x, h1, h2, _⟩ := shB1_reg (hv := s.1) hrb (w.2.2.2.1 hrb)
      exact ⟨x, h1, h2⟩
    have hg := g_lt (s := s) (b := shB1 s.1 k b) hs.1 (fun z => haR (Or.inl z))
    have eN : shN s k (nI rd) a b = (fun r => if r = nN (nI rd) then sg s k a b else s.1 r, gN s k (shA1 s.1 k a) (shB1 s.1 k b), gT s k (shA1 s.1 k a) (shB1 s.1 k b)) := by unfold shN; rw [if_pos ew]
    have hg1 : sg s k a b < gN s k (shA1 s.1 k a) (shB1 s.1 k b) := hg.1
    -- the value given
    have e167 : ∃ vK' vO' vW', (if nI k < 3 then f_X9_shared_167 n (upd fa (100 + i) (shA1 s.1 k a)) (upd fb (100 + i) (shB1 s.1 k b)) fd held fk vK vO vW (nI (bb + s.2.1)) (nI bb) (nI i) (nI k) (shA1 s.1 k a) (shB1 s.1 k b) (b2i o) 0 else if 5 < nI k then f_X9_shared_167 n (upd fa (100 + i) (shA1 s.1 k a)) (upd fb (100 + i) (shB1 s.1 k b)) fd held fk vK vO vW (nI (bb + s.2.1)) (nI bb) (nI i) (nI k) (shA1 s.1 k a) (shB1 s.1 k b) (b2i o) 0 else f_X9_shared_167 n (upd fa (100 + i) (shA1 s.1 k a)) (upd fb (100 + i) (shB1 s.1 k b)) fd held fk vK vO vW (nI (bb + s.2.1)) (nI bb) (nI i) (nI k) (shA1 s.1 k a) (shB1 s.1 k b) (b2i o) 1)
        = f_X9_shared_231 n (upd fa (100 + i) (shA1 s.1 k a)) (upd fb (100 + i) (shB1 s.1 k b)) fd held fk vK' vO' vW' (nI (bb + gN s k (shA1 s.1 k a) (shB1 s.1 k b))) (nI bb) (nI i) (nI k) (b2i o) (b2i (decide (3 ≤ k ∧ k ≤ 5))) (nI (bb + sg s k a b)) ∧ RelV (gT s k (shA1 s.1 k a) (shB1 s.1 k b)) (gN s k (shA1 s.1 k a) (shB1 s.1 k b)) bb vK' vO' vW' := by
      have l3 : (nI k < (3 : Int32)) ↔ k < 3 := nI_ltI (b := 3) (by omega) (by decide)
      have l5 : ((5 : Int32) < nI k) ↔ 5 < k := nI_ltI (a := 5) (by decide) (by omega)
      simp only [l3, l5]
      unfold f_X9_shared_167
      simp only [ki1 hk, ki2 hk]
      by_cases k1 : k = 1
      · subst k1
        obtain ⟨vK', vO', vW', t1, t2⟩ := m_valueOf (k := 1) (X := shA1 s.1 1 a) (Y := 0) (x := shA1 s.1 1 a) (y := 0) hn hnv hs.2.2 (Or.inl ⟨rfl, rfl, rfl, rfl⟩)
        have t1 : f_X9_valueOf n vK vO vW (nI (bb + s.2.1)) (nI bb) 1 (shA1 s.1 1 a) 0 = _ := t1
        rw [t1]
        exact ⟨vK', vO', vW', rfl, t2⟩
      by_cases k2 : k = 2
      · subst k2
        obtain ⟨r, h1, h2⟩ := haR (Or.inl rfl)
        refine ⟨vK, vO, vW, ?_, hs.2.2⟩
        have hsg : sg s 2 a b = s.1 r := by
          show s.1 (nN (shA1 s.1 2 a)) = _
          rw [h2, nN_nI h1]
        have hgN : gN s 2 (shA1 s.1 2 a) (shB1 s.1 2 b) = s.2.1 := rfl
        rw [hsg, hgN, h2, pn_gd h1 (by omega), nI_clamp (by omega), hs.2.1 r h1]
        rfl
      simp only [k1, k2, if_false, if_true]
      by_cases k345 : 3 ≤ k ∧ k ≤ 5
      · have har : arK k = true := by unfold arK; simp; omega
        obtain ⟨ra, h1, h2⟩ := haR (Or.inr har)
        obtain ⟨rb, h3, h4⟩ := hbR har
        have htb : tbK k = true := tb_of.mpr (by omega)
        have b1 := hs.1.1 ra h1
        have b2 := hs.1.1 rb h3
        have ex : gx s.1 k (shA1 s.1 k a) (shB1 s.1 k b) = nI (if k = 4 then s.1 ra else min (s.1 ra) (s.1 rb)) := by unfold gx; rw [if_neg k1, h2, h4, nN_nI h1, nN_nI h3]
        have ey : gy s.1 k (shA1 s.1 k a) (shB1 s.1 k b) = nI (if k = 4 then s.1 rb else max (s.1 ra) (s.1 rb)) := by unfold gy; rw [if_neg k1, h2, h4, nN_nI h1, nN_nI h3]
        have hKey : KeyOf bb k (nI (bb + s.1 ra)) (nI (bb + s.1 rb)) (gx s.1 k (shA1 s.1 k a) (shB1 s.1 k b)) (gy s.1 k (shA1 s.1 k a) (shB1 s.1 k b)) := by
          rw [ex, ey]
          by_cases k4 : k = 4
          · rw [if_pos k4, if_pos k4]
            exact Or.inr (Or.inl ⟨k4, _, _, by omega, by omega, rfl, rfl, rfl, rfl⟩)
          · rw [if_neg k4, if_neg k4]
            exact Or.inr (Or.inr ⟨by omega, _, _, by omega, by omega, rfl, rfl, rfl, rfl⟩)
        obtain ⟨vK', vO', vW', t1, t2⟩ := m_valueOf hn hnv hs.2.2 hKey
        have f1 : sg s k a b = tvV s.2.2 s.2.1 k (gx s.1 k (shA1 s.1 k a) (shB1 s.1 k b)) (gy s.1 k (shA1 s.1 k a) (shB1 s.1 k b)) := if_pos htb
        have f2 : gN s k (shA1 s.1 k a) (shB1 s.1 k b) = tvN s.2.2 s.2.1 k (gx s.1 k (shA1 s.1 k a) (shB1 s.1 k b)) (gy s.1 k (shA1 s.1 k a) (shB1 s.1 k b)) := if_pos htb
        have f3 : gT s k (shA1 s.1 k a) (shB1 s.1 k b) = tvT s.2.2 s.2.1 k (gx s.1 k (shA1 s.1 k a) (shB1 s.1 k b)) (gy s.1 k (shA1 s.1 k a) (shB1 s.1 k b)) := if_pos htb
        refine ⟨vK', vO', vW', ?_, by rw [f2, f3]; exact t2⟩
        rw [if_neg (by omega), if_neg (by omega), if_neg (show ¬ (1 : Int32) = 0 by decide)]
        rw [show gd (shA1 s.1 k a) 8 (gd (shB1 s.1 k b) 8 ((f_X9_valueOf n vK vO vW (nI (bb + s.2.1)) (nI bb) (nI k) (held (shA1 s.1 k a).toNatClampNeg) (held (shB1 s.1 k b).toNatClampNeg)).bind (fun u31 => f_X9_shared_231 n (upd fa (100 + i) (shA1 s.1 k a)) (upd fb (100 + i) (shB1 s.1 k b)) fd held fk u31.2.1 u31.2.2.1 u31.2.2.2.1 u31.2.2.2.2 (nI bb) (nI i) (nI k) (b2i o) 1 u31.1))) = f_X9_shared_231 n (upd fa (100 + i) (shA1 s.1 k a)) (upd fb (100 + i) (shB1 s.1 k b)) fd held fk vK' vO' vW' (nI (bb + gN s k (shA1 s.1 k a) (shB1 s.1 k b))) (nI bb) (nI i) (nI k) (b2i o) 1 (nI (bb + sg s k a b)) by
          have hA : gd (shA1 s.1 k a) 8 (gd (shB1 s.1 k b) 8 ((f_X9_valueOf n vK vO vW (nI (bb + s.2.1)) (nI bb) (nI k) (held (shA1 s.1 k a).toNatClampNeg) (held (shB1 s.1 k b).toNatClampNeg)).bind (fun u31 => f_X9_shared_231 n (upd fa (100 + i) (shA1 s.1 k a)) (upd fb (100 + i) (shB1 s.1 k b)) fd held fk u31.2.1 u31.2.2.1 u31.2.2.2.1 u31.2.2.2.2 (nI bb) (nI i) (nI k) (b2i o) 1 u31.1))) = ((f_X9_valueOf n vK vO vW (nI (bb + s.2.1)) (nI bb) (nI k) (nI (bb + s.1 ra)) (nI (bb + s.1 rb))).bind (fun u31 => f_X9_shared_231 n (upd fa (100 + i) (shA1 s.1 k a)) (upd fb (100 + i) (shB1 s.1 k b)) fd held fk u31.2.1 u31.2.2.1 u31.2.2.2.1 u31.2.2.2.2 (nI bb) (nI i) (nI k) (b2i o) 1 u31.1)) := by
            have c1 : (shA1 s.1 k a).toNatClampNeg = ra := by rw [h2]; exact nI_clamp (by omega)
            have c2 : (shB1 s.1 k b).toNatClampNeg = rb := by rw [h4]; exact nI_clamp (by omega)
            have c3 : ∀ {α : Type} {x : Option α}, gd (shA1 s.1 k a) 8 x = x := by rw [h2]; exact pn_gd h1 (by omega)
            have c4 : ∀ {α : Type} {x : Option α}, gd (shB1 s.1 k b) 8 x = x := by rw [h4]; exact pn_gd h3 (by omega)
            rw [c3, c4, c1, c2, hs.2.1 ra h1, hs.2.1 rb h3]
          rw [hA, t1, f1, f2]
          rfl]
        rw [decide_eq_true k345]
        rfl
      · have htb : ¬ tbK k = true := fun t => by have := tb_of.mp t; omega
        have f1 : sg s k a b = s.2.1 := by
          show (if tbK k = true then _ else if k = 2 then _ else s.2.1) = _
          rw [if_neg htb, if_neg k2]
        have f2 : gN s k (shA1 s.1 k a) (shB1 s.1 k b) = s.2.1 + 1 := by unfold gN; rw [if_neg htb, if_neg k2]
        have f3 : gT s k (shA1 s.1 k a) (shB1 s.1 k b) = s.2.2 := by unfold gT; rw [if_neg htb]
        rw [f1, f2, f3, if_neg (by omega), if_pos (by omega), m_newValue hnv, decide_eq_false k345]
        exact ⟨_, _, _, rfl, rel_new hs.2.2⟩
    obtain ⟨vK', vO', vW', t1, t2⟩ := e167
    rw [t1]
    have hSM : SM (shN s k (nI rd) a b) bb (upd held rd (nI (bb + sg s k a b))) vK' vO' vW' := by
      refine ⟨ok.1, fun r hr => ?_, ?_⟩
      · rw [eN]
        show _ = nI (bb + if r = nN (nI rd) then sg s k a b else s.1 r)
        rw [nN_nI hd1]
        by_cases z : r = rd
        · rw [z, upd_s, if_pos rfl]
        · rw [upd_n _ z, if_neg z]; exact hs.2.1 r hr
      · rw [eN]; exact t2
    have eNv : (shN s k (nI rd) a b).2.1 = gN s k (shA1 s.1 k a) (shB1 s.1 k b) := by rw [eN]
    rw [eNv]
    have hgl : sg s k a b < 1000 := by have := hg.2.2; omega
    have hrdn : s.1 rd < 1000 := by have := hs.1.1 rd hd1; omega
    unfold f_X9_shared_231
    rw [pn_h]
    simp only [g, hcl]
    rw [hlow _ hgl, hd0]
    simp only [Option.bind_some]
    rw [pn_gd hd1 (by omega), nI_clamp (by omega), hs.2.1 rd hd1]
    have e269 : (if nI (bb + s.1 rd) = nI (bb + sg s k a b) then f_X9_shared_269 n (upd fa (100 + i) (shA1 s.1 k a)) (upd fb (100 + i) (shB1 s.1 k b)) fd held fk vK' vO' vW' (nI (bb + gN s k (shA1 s.1 k a) (shB1 s.1 k b))) (nI bb) (nI i) (nI k) (b2i o) (b2i (decide (3 ≤ k ∧ k ≤ 5))) (nI (bb + sg s k a b)) (nI rd) (oI (lw s.1 (sg s k a b))) 1 else f_X9_shared_269 n (upd fa (100 + i) (shA1 s.1 k a)) (upd fb (100 + i) (shB1 s.1 k b)) fd held fk vK' vO' vW' (nI (bb + gN s k (shA1 s.1 k a) (shB1 s.1 k b))) (nI bb) (nI i) (nI k) (b2i o) (b2i (decide (3 ≤ k ∧ k ≤ 5))) (nI (bb + sg s k a b)) (nI rd) (oI (lw s.1 (sg s k a b))) 0) = f_X9_shared_269 n (upd fa (100 + i) (shA1 s.1 k a)) (upd fb (100 + i) (shB1 s.1 k b)) fd held fk vK' vO' vW' (nI (bb + gN s k (shA1 s.1 k a) (shB1 s.1 k b))) (nI bb) (nI i) (nI k) (b2i o) (b2i (decide (3 ≤ k ∧ k ≤ 5))) (nI (bb + sg s k a b)) (nI rd) (oI (lw s.1 (sg s k a b))) (b2i (s.1 rd == sg s k a b)) := by
      by_cases z : s.1 rd = sg s k a b
      · rw [if_pos (by rw [z]), z, beq_self_eq_true]; rfl
      · rw [if_neg (fun t => z (by have := nIj t (by omega) (by omega); omega))]
        have : (s.1 rd == sg s k a b) = false := by simp [z]
        rw [this]
        rfl
    rw [e269]
    have hlw : ∀ r, lw s.1 (sg s k a b) = some r → r < 8 ∧ s.1 r = sg s k a b := fun r hr => by
      have := lwG_some 8 0 hr
      exact ⟨by omega, this.1⟩
    have hhad : had s k (nI rd) a b = (onK k && s.1 rd == sg s k a b) := by unfold had; rw [ew, Bool.true_and, nN_nI hd1]
    have hon : onK k = true ↔ (k = 1 ∨ k = 2 ∨ (3 ≤ k ∧ k ≤ 5)) := by unfold onK; simp only [Bool.and_eq_true, decide_eq_true_eq]; omega
    unfold f_X9_shared_269 f_X9_shared_300
    simp only [ki1 hk, ki2 hk]
    -- where d has the value already
    by_cases z : onK k = true ∧ s.1 rd = sg s k a b
    · have eh : had s k (nI rd) a b = true := by rw [hhad, z.1, Bool.true_and, z.2, beq_self_eq_true]
      have c1 : shK s k (nI rd) a b = 0 := by unfold shK; rw [if_pos eh]
      have c2 : shD s k (nI rd) a b = 0 := by unfold shD; rw [if_pos eh]
      have c3 : shA s k (nI rd) a b = 0 := by unfold shA; rw [if_pos eh]
      have c4 : shB s k (nI rd) a b = 0 := by unfold shB; rw [if_pos eh]
      have z0k : (0 == k) = false := by
        simp only [beq_eq_false_iff_ne]
        omega
      have cC : shC s k (nI rd) a b = true := by unfold shC; rw [c1, z0k]; rfl
      rw [cC, c1, c2, c3, c4]
      obtain ⟨r, hr, _⟩ := lw_reg (hv := s.1) hd1
      rw [z.2] at hr
      obtain ⟨hr8, _⟩ := hlw r hr
      have nneg : ¬ oI (some r) < 0 := nI_pos (by omega)
      have p281 : f_X9_shared_315 n (upd fa (100 + i) (shA1 s.1 k a)) (upd fb (100 + i) (shB1 s.1 k b)) fd held fk vK' vO' vW' (nI (bb + gN s k (shA1 s.1 k a) (shB1 s.1 k b))) (nI bb) (nI i) (nI k) (b2i o) (nI (bb + sg s k a b)) (nI rd) (b2i (s.1 rd == sg s k a b)) = some (b2i true, upd fa (100 + i) 0, upd fb (100 + i) 0, upd fd (100 + i) 0, upd held rd (nI (bb + sg s k a b)), upd fk (100 + i) (nI 0), vK', vO', vW', nI (bb + gN s k (shA1 s.1 k a) (shB1 s.1 k b))) := by
        unfold f_X9_shared_315
        rw [z.2, beq_self_eq_true, if_neg (show ¬ b2i true = 0 by decide), pn_h, m_put (by omega)]
        simp only [Option.bind_some]
        rw [m_332 (kk := 0) hi hk (by omega) (show upd fk (100 + i) (0 : Int32) (100 + i) = nI 0 from upd_s _ _ _) hd1, upd_upd, upd_upd]
        have : (0 == k) = false := by simp; omega
        rw [this]
        simp
        rfl
      have p300 : f_X9_shared_281 n (upd fa (100 + i) (shA1 s.1 k a)) (upd fb (100 + i) (shB1 s.1 k b)) fd held fk vK' vO' vW' (nI (bb + gN s k (shA1 s.1 k a) (shB1 s.1 k b))) (nI bb) (nI i) (nI k) (b2i o) (b2i (decide (3 ≤ k ∧ k ≤ 5))) (nI (bb + sg s k a b)) (nI rd) (oI (lw s.1 (sg s k a b))) (b2i (s.1 rd == sg s k a b)) = some (b2i true, upd fa (100 + i) 0, upd fb (100 + i) 0, upd fd (100 + i) 0, upd held rd (nI (bb + sg s k a b)), upd fk (100 + i) (nI 0), vK', vO', vW', nI (bb + gN s k (shA1 s.1 k a) (shB1 s.1 k b))) := by
        unfold f_X9_shared_281
        rw [hr, if_neg nneg, pn_h, m_put (by omega)]
        simp only [Option.bind_some]
        unfold f_X9_shared_300 f_X9_shared_315
        simp only [ki1 hk, ki2 hk]
        rw [z.2, beq_self_eq_true, if_neg (show ¬ b2i true = 0 by decide), pn_h, m_put (by omega)]
        simp only [Option.bind_some]
        simp only [upd_upd]
        rw [m_332 (kk := 0) hi hk (by omega) (show upd fk (100 + i) (0 : Int32) (100 + i) = nI 0 from upd_s _ _ _) hd1]
        have e0k : (0 == k) = false := by simp; omega
        rw [e0k]
        rcases hon.mp z.1 with h | h | h
        · subst h; simp; rfl
        · subst h; simp; rfl
        · simp [h.1, h.2]; rfl
      rw [p281, p300]
      refine ⟨_, _, _, _, ?_, hSM⟩
      rcases hon.mp z.1 with h | h | h
      · subst h; rfl
      · subst h; rfl
      · rw [decide_eq_true h]; rfl
    · have eh : had s k (nI rd) a b = false := by
        rw [hhad]
        cases e : (onK k && s.1 rd == sg s k a b) with
        | false => rfl
        | true =>
          simp only [Bool.and_eq_true, beq_iff_eq] at e
          exact absurd e z
      have c2 : shD s k (nI rd) a b = nI rd := by unfold shD; rw [if_neg (by rw [eh]; decide)]
      -- the plain end
      have plain : f_X9_shared_332 n (upd fa (100 + i) (shA1 s.1 k a)) (upd fb (100 + i) (shB1 s.1 k b)) fd held fk vK' vO' vW' (nI (bb + gN s k (shA1 s.1 k a) (shB1 s.1 k b))) (nI bb) (nI i) (nI k) (b2i o) (nI (bb + sg s k a b)) (nI rd) = some (b2i o, upd fa (100 + i) (shA1 s.1 k a), upd fb (100 + i) (shB1 s.1 k b), fd, upd held rd (nI (bb + sg s k a b)), fk, vK', vO', vW', nI (bb + gN s k (shA1 s.1 k a) (shB1 s.1 k b))) := by
        rw [m_332 (kk := k) hi hk hk hf hd1]
        simp
      have p315 : onK k = true → f_X9_shared_315 n (upd fa (100 + i) (shA1 s.1 k a)) (upd fb (100 + i) (shB1 s.1 k b)) fd held fk vK' vO' vW' (nI (bb + gN s k (shA1 s.1 k a) (shB1 s.1 k b))) (nI bb) (nI i) (nI k) (b2i o) (nI (bb + sg s k a b)) (nI rd) (b2i (s.1 rd == sg s k a b)) = some (b2i o, upd fa (100 + i) (shA1 s.1 k a), upd fb (100 + i) (shB1 s.1 k b), fd, upd held rd (nI (bb + sg s k a b)), fk, vK', vO', vW', nI (bb + gN s k (shA1 s.1 k a) (shB1 s.1 k b))) := fun h => by
        unfold f_X9_shared_315
        have : (s.1 rd == sg s k a b) = false := by
          cases e : (s.1 rd == sg s k a b) with
          | false => rfl
          | true => exact absurd ⟨h, beq_iff_eq.mp e⟩ z
        rw [this, if_pos (show b2i false = 0 by decide)]
        exact plain
      by_cases htb : k = 1 ∨ (3 ≤ k ∧ k ≤ 5)
      · have hok : onK k = true := hon.mpr (by omega)
        have hhdr : hdr s k (sg s k a b) = lw s.1 (sg s k a b) := if_pos hok
        have hne : (s.1 rd == sg s k a b) = false := by
          cases e : (s.1 rd == sg s k a b) with
          | false => rfl
          | true => exact absurd ⟨hok, beq_iff_eq.mp e⟩ z
        have to281 : ∀ {α : Type} {A B C : α}, (if b2i (decide (3 ≤ k ∧ k ≤ 5)) = 0 then (if k = 1 then A else B) else A) = A := fun {α A B C} => by
          rcases htb with h | h
          · subst h; rfl
          · rw [decide_eq_true h]; rfl
        rw [to281 (C := f_X9_shared_281 n (upd fa (100 + i) (shA1 s.1 k a)) (upd fb (100 + i) (shB1 s.1 k b)) fd held fk vK' vO' vW' (nI (bb + gN s k (shA1 s.1 k a) (shB1 s.1 k b))) (nI bb) (nI i) (nI k) (b2i o) (b2i (decide (3 ≤ k ∧ k ≤ 5))) (nI (bb + sg s k a b)) (nI rd) (oI (lw s.1 (sg s k a b))) (b2i (s.1 rd == sg s k a b)))]
        unfold f_X9_shared_281
        cases e : lw s.1 (sg s k a b) with
        | none =>
          have c1 : shK s k (nI rd) a b = k := by unfold shK; rw [if_neg (by rw [eh]; decide), if_neg (by rw [hhdr, e]; simp)]
          have c3 : shA s k (nI rd) a b = shA1 s.1 k a := by unfold shA; rw [if_neg (by rw [eh]; decide), if_neg (by rw [hhdr, e]; simp)]
          have c4 : shB s k (nI rd) a b = shB1 s.1 k b := by unfold shB; rw [if_neg (by rw [eh]; decide), if_neg (by rw [hhdr, e]; simp)]
          rw [if_pos (show oI none < 0 by decide)]
          unfold f_X9_shared_300
          simp only [ki1 hk, ki2 hk]
          rw [p315 hok, hflag c1 c2 c3 c4, c1, c2, c3, c4, upd_same hd0.symm, upd_same hf.symm]
          refine ⟨_, _, _, _, ?_, hSM⟩
          rcases htb with h | h
          · subst h; rfl
          · rw [decide_eq_true h]; rfl
        | some r =>
          obtain ⟨hr8, hr2⟩ := hlw r e
          have c1 : shK s k (nI rd) a b = 2 := by unfold shK; rw [if_neg (by rw [eh]; decide), if_pos ⟨ew, by rw [hhdr, e]; rfl⟩]
          have c3 : shA s k (nI rd) a b = nI r := by unfold shA; rw [if_neg (by rw [eh]; decide), if_pos ⟨ew, by rw [hhdr, e]; rfl⟩, hhdr, e]; rfl
          have c4 : shB s k (nI rd) a b = 0 := by unfold shB; rw [if_neg (by rw [eh]; decide), if_pos ⟨ew, by rw [hhdr, e]; rfl⟩]
          have hk2 : (2 == k) = false := by simp; omega
          have cC : shC s k (nI rd) a b = true := by unfold shC; rw [c1, hk2]; rfl
          rw [show oI (some r) = nI r from rfl, if_neg (nI_pos (by omega)), pn_h, m_put (by omega)]
          simp only [Option.bind_some]
          unfold f_X9_shared_300 f_X9_shared_315
          simp only [ki1 hk, ki2 hk]
          rw [hne, if_pos (show b2i false = 0 by decide), m_332 (kk := 2) hi hk (by omega) (show upd fk (100 + i) (2 : Int32) (100 + i) = nI 2 from upd_s _ _ _) hd1, hk2, upd_upd, upd_upd, cC, c1, c2, c3, c4]
          refine ⟨_, _, _, _, ?_, hSM⟩
          rcases htb with h | h
          · subst h; simp; rfl
          · rw [decide_eq_true h]; simp; rfl
      · have n1 : ¬ k = 1 := fun t => htb (Or.inl t)
        have n345 : ¬ (3 ≤ k ∧ k ≤ 5) := fun t => htb (Or.inr t)
        rw [decide_eq_false n345, if_pos (show b2i false = 0 by decide), if_neg n1, if_pos (show b2i false = 0 by decide), if_neg n1]
        by_cases k2 : k = 2
        · have hok : onK k = true := hon.mpr (by omega)
          have hhdr : hdr s k (sg s k a b) = lw s.1 (sg s k a b) := if_pos hok
          have hra : raK k = true := by rw [k2]; decide
          obtain ⟨x, hx1, hx2, hx3⟩ := shA1_reg (hv := s.1) hra (w.2.2.1 hra)
          obtain ⟨ra, hra1, hra2⟩ := w.2.2.1 hra
          have hsg : sg s k a b = s.1 x := by
            unfold sg gV
            rw [if_neg (fun t => by have := tb_of.mp t; omega), if_pos k2, hx2, nN_nI hx1]
          have hlx : lw s.1 (s.1 x) = some x := by
            obtain ⟨y, hy1, hy2, hy3⟩ := lw_reg (hv := s.1) hra1
            have : shA1 s.1 k a = nI y := by unfold shA1; rw [if_pos hra, hra2, nN_nI hra1, hy1]; rfl
            have e : x = y := nIj (hx2.symm.trans this) (by omega) (by omega)
            rw [e, hy3]; exact hy1
          have c1 : shK s k (nI rd) a b = k := by unfold shK; rw [if_neg (by rw [eh]; decide), if_pos ⟨ew, by rw [hhdr, hsg, hlx]; rfl⟩, k2]
          have c3 : shA s k (nI rd) a b = shA1 s.1 k a := by unfold shA; rw [if_neg (by rw [eh]; decide), if_pos ⟨ew, by rw [hhdr, hsg, hlx]; rfl⟩, hhdr, hsg, hlx, hx2]; rfl
          have c4 : shB s k (nI rd) a b = shB1 s.1 k b := by
            unfold shB
            rw [if_neg (by rw [eh]; decide), if_pos ⟨ew, by rw [hhdr, hsg, hlx]; rfl⟩]
            unfold shB1
            rw [if_neg (by rw [k2]; decide)]
            exact (w.2.2.2.2.2.2.2 (by rw [k2]; decide)).symm
          rw [if_pos k2, p315 hok, hflag c1 c2 c3 c4, c1, c2, c3, c4, upd_same hd0.symm, upd_same hf.symm]
          exact ⟨_, _, _, _, rfl, hSM⟩
        · have hok : onK k = false := by
            cases e : onK k with
            | false => rfl
            | true => have := hon.mp e; omega
          have hhdr : hdr s k (sg s k a b) = none := by unfold hdr; rw [if_neg (by rw [hok]; decide)]
          have c1 : shK s k (nI rd) a b = k := by unfold shK; rw [if_neg (by rw [eh]; decide), if_neg (by rw [hhdr]; simp)]
          have c3 : shA s k (nI rd) a b = shA1 s.1 k a := by unfold shA; rw [if_neg (by rw [eh]; decide), if_neg (by rw [hhdr]; simp)]
          have c4 : shB s k (nI rd) a b = shB1 s.1 k b := by unfold shB; rw [if_neg (by rw [eh]; decide), if_neg (by rw [hhdr]; simp)]
          rw [if_neg k2, plain, hflag c1 c2 c3 c4, c1, c2, c3, c4, upd_same hd0.symm, upd_same hf.symm]
          exact ⟨_, _, _, _, rfl, hSM⟩
end SHM
