theorem tv_lt {T : VT} {nv k : Nat} {x y : Int32} (h : ∀ k x y v, T k x y = some v → v < nv) : tvV T nv k x y < tvN T nv k x y ∧ nv ≤ tvN T nv k x y ∧ tvN T nv k x y ≤ nv + 1 := by
  unfold tvV tvN
  cases e : T k x y with
  | none => exact ⟨Nat.lt_succ_self _, Nat.le_succ _, Nat.le_refl _⟩
  | some v => exact ⟨h k x y v e, Nat.le_refl _, Nat.le_succ _⟩
theorem tv_ok {T : VT} {nv k : Nat} {x y : Int32} (h : ∀ k x y v, T k x y = some v → v < nv) : ∀ k' x' y' v, tvT T nv k x y k' x' y' = some v → v < tvN T nv k x y := by
  intro k' x' y' v hv
  unfold tvT at hv
  unfold tvN
  cases e : T k x y with
  | some w => rw [e] at hv; exact h k' x' y' v hv
  | none =>
    rw [e] at hv
    have hv : (if k' = k ∧ x' = x ∧ y' = y then some nv else T k' x' y') = some v := hv
    by_cases z : k' = k ∧ x' = x ∧ y' = y
    · rw [if_pos z] at hv
      have := Option.some.inj hv
      show v < nv + 1
      omega
    · rw [if_neg z] at hv
      have := h k' x' y' v hv
      show v < nv + 1
      omega
theorem g_lt {s : HV} {k : Nat} {a b : Int32} (hs : HOK s) (ha : k = 2 → ∃ r, r < 8 ∧ a = nI r) : gV s k a b < gN s k a b ∧ s.2.1 ≤ gN s k a b ∧ gN s k a b ≤ s.2.1 + 1 := by
  unfold gV gN
  by_cases z : tbK k = true
  · rw [if_pos z, if_pos z]
    exact tv_lt hs.2
  · rw [if_neg z, if_neg z]
    by_cases z2 : k = 2
    · obtain ⟨r, h1, h2⟩ := ha z2
      rw [if_pos z2, if_pos z2, h2, nN_nI h1]
      exact ⟨hs.1 r h1, Nat.le_refl _, by omega⟩
    · rw [if_neg z2, if_neg z2]
      exact ⟨by omega, by omega, by omega⟩
theorem gT_ok {s : HV} {k : Nat} {a b : Int32} (hs : HOK s) (ha : k = 2 → ∃ r, r < 8 ∧ a = nI r) : ∀ k' x' y' v, gT s k a b k' x' y' = some v → v < gN s k a b := by
  intro k' x' y' v hv
  have hle := (g_lt (b := b) hs ha).2.1
  unfold gT at hv
  by_cases z : tbK k = true
  · rw [if_pos z] at hv
    unfold gN
    rw [if_pos z]
    exact tv_ok hs.2 k' x' y' v hv
  · rw [if_neg z] at hv
    exact Nat.lt_of_lt_of_le (hs.2 k' x' y' v hv) hle
theorem shN_ok {s : HV} {c k : Nat} {d a b : Int32} (w : WI c k d a b) (hs : HOK s) : HOK (shN s k d a b) ∧ (shN s k d a b).2.1 ≤ s.2.1 + 1 := by
  have ha2 : k = 2 → ∃ r, r < 8 ∧ shA1 s.1 k a = nI r := fun z => by
    obtain ⟨x, h1, h2, _⟩ := shA1_reg (hv := s.1) (k := k) (by rw [z]; decide) (w.2.2.1 (by rw [z]; decide))
    exact ⟨x, h1, h2⟩
  have hg := g_lt (b := shB1 s.1 k b) hs ha2
  unfold shN
  by_cases z : wrK k = true
  · rw [if_pos z]
    refine ⟨⟨fun r hr => ?_, gT_ok hs ha2⟩, hg.2.2⟩
    show (if r = nN d then sg s k a b else s.1 r) < gN s k (shA1 s.1 k a) (shB1 s.1 k b)
    by_cases e : r = nN d
    · rw [if_pos e]; exact hg.1
    · rw [if_neg e]; exact Nat.lt_of_lt_of_le (hs.1 r hr) hg.2.1
  · rw [if_neg z]; exact ⟨hs, by omega⟩
theorem putC {k k' : Nat} {d d' a a' b b' : Int32} (hk : k < 15) (hk' : k' < 15) : (if nI k = nI k' ∧ d = d' ∧ a = a' ∧ b = b' then (0 : Int32) else 1) = b2i (!(k' == k && decide (d' = d) && decide (a' = a) && decide (b' = b))) := by
  by_cases z : k = k' ∧ d = d' ∧ a = a' ∧ b = b'
  · obtain ⟨rfl, rfl, rfl, rfl⟩ := z
    simp [b2i]
  · rw [if_neg (fun t => z ⟨nIj t.1 (by omega) (by omega), t.2⟩)]
    have : (k' == k && decide (d' = d) && decide (a' = a) && decide (b' = b)) = false := by
      cases e : (k' == k && decide (d' = d) && decide (a' = a) && decide (b' = b)) with
      | false => rfl
      | true =>
        simp only [Bool.and_eq_true, beq_iff_eq, decide_eq_true_eq] at e
        exact absurd ⟨e.1.1.1.symm, e.1.1.2.symm, e.1.2.symm, e.2.symm⟩ z
    rw [this]
    rfl
theorem on_wr : ∀ k, k < 15 → onK k = true → wrK k = true := by decide
theorem shK_lt {s : HV} {k : Nat} {d a b : Int32} (hk : k < 15) : shK s k d a b < 15 := by
  unfold shK
  split
  · omega
  · split <;> omega
section SH2
variable {n L c i k m : Nat} {s : HV} {held eK eV eX eY fa fb fd fk : Nat → Int32}
theorem s_shareOne (hn : 24 < n) (hL : i < L) (hLL : L < 2 ^ 31) (hf : fk i = nI k) (w : WI c k (fd i) (fa i) (fb i)) (hs : SC s held eK eV eX eY m) (hm : m < 24) (hnv : s.2.1 < 1000) :
    ∃ eK' eV' eX' eY' held' m', f_X7_shareOne n L eK eV eX eY held fa fb fd fk (nI m) (nI s.2.1) (nI i) = some (b2i (shC s k (fd i) (fa i) (fb i)), eK', eV', eX', eY', held', upd fa i (shA s k (fd i) (fa i) (fb i)), upd fb i (shB s k (fd i) (fa i) (fb i)), upd fd i (shD s k (fd i) (fa i) (fb i)), upd fk i (nI (shK s k (fd i) (fa i) (fb i))), nI m', nI (shN s k (fd i) (fa i) (fb i)).2.1) ∧ SC (shN s k (fd i) (fa i) (fb i)) held' eK' eV' eX' eY' m' ∧ m' ≤ m + 1 := by
  have hk : k < 15 := by have := w.1; omega
  have g : ∀ {α : Type} {x : Option α}, gd (nI i) L x = x := pn_gd hL hLL
  have hcl : (nI i).toNatClampNeg = i := nI_clamp (by omega)
  have hh : ∀ r, r < 8 → held r = nI (s.1 r) ∧ s.1 r < 2 ^ 31 := fun r hr => ⟨hs.2.1 r hr, by have := hs.1.1 r hr; omega⟩
  have e0 : f_X7_shareOne n L eK eV eX eY held fa fb fd fk (nI m) (nI s.2.1) (nI i) = f_X7_shareOne_46 n L eK eV eX eY held fa fb fd fk (nI m) (nI s.2.1) (nI i) (nI k) (fd i) (shA1 s.1 k (fa i)) := by
    unfold f_X7_shareOne
    simp only [g, hcl]
    rw [hf, s_readsA k hk]
    simp only [Option.bind_some]
    unfold shA1
    cases e : raK k with
    | false => rfl
    | true =>
      obtain ⟨r, h1, h2⟩ := w.2.2.1 e
      rw [if_neg (show ¬ b2i true = 0 by decide), h2, pn_gd h1 (by omega), nI_clamp (by omega), hs.2.1 r h1, s_low (by omega) (hh r h1).2 hh, nN_nI h1]
      rfl
  have e1 : f_X7_shareOne_46 n L eK eV eX eY held fa fb fd fk (nI m) (nI s.2.1) (nI i) (nI k) (fd i) (shA1 s.1 k (fa i)) = f_X7_shareOne_79 n L eK eV eX eY held fa fb fd fk (nI m) (nI s.2.1) (nI i) (nI k) (fd i) (shA1 s.1 k (fa i)) (shB1 s.1 k (fb i)) := by
    unfold f_X7_shareOne_46
    simp only [g, hcl]
    rw [s_readsB k hk]
    simp only [Option.bind_some]
    unfold shB1
    cases e : rbK k with
    | false => rfl
    | true =>
      obtain ⟨r, h1, h2⟩ := w.2.2.2.1 e
      rw [if_neg (show ¬ b2i true = 0 by decide), h2, pn_gd h1 (by omega), nI_clamp (by omega), hs.2.1 r h1, s_low (by omega) (hh r h1).2 hh, nN_nI h1]
      rfl
  rw [e0, e1]
  unfold f_X7_shareOne_79
  rw [s_writesD k hk]
  simp only [Option.bind_some]
  have ok := shN_ok (s := s) w hs.1
  cases ew : wrK k with
  | false =>
    have eh : had s k (fd i) (fa i) (fb i) = false := by unfold had; rw [ew]; rfl
    have c1 : shK s k (fd i) (fa i) (fb i) = k := by unfold shK; rw [eh, ew]; simp
    have c2 : shD s k (fd i) (fa i) (fb i) = fd i := by unfold shD; rw [eh]; simp
    have c3 : shA s k (fd i) (fa i) (fb i) = shA1 s.1 k (fa i) := by unfold shA; rw [eh, ew]; simp
    have c4 : shB s k (fd i) (fa i) (fb i) = shB1 s.1 k (fb i) := by unfold shB; rw [eh, ew]; simp
    have c5 : shN s k (fd i) (fa i) (fb i) = s := by unfold shN; rw [ew]; simp
    rw [if_pos (show b2i false = 0 by decide), s_put hL hLL, hf]
    dsimp only [Option.bind_some]
    rw [putC hk hk, gb_in (b2i_01 _), c5]
    unfold shC
    rw [c1, c2, c3, c4]
    exact ⟨_, _, _, _, _, m, rfl, hs, by omega⟩
  | true =>
    obtain ⟨rd, hd1, hd2⟩ := w.2.1 ew
    rw [if_neg (show ¬ b2i true = 0 by decide)]
    have haR : k = 2 ∨ arK k = true → ∃ r, r < 8 ∧ shA1 s.1 k (fa i) = nI r := fun z => by
      have hra : raK k = true := by
        rcases z with z | z
        · rw [z]; decide
        · exact (ar_of k hk z).1
      obtain ⟨x, h1, h2, _⟩ := shA1_reg (hv := s.1) hra (w.2.2.1 hra)
      exact ⟨x, h1, h2⟩
    have hbR : arK k = true → ∃ r, r < 8 ∧ shB1 s.1 k (fb i) = nI r := fun z => by
      have hrb := (ar_of k hk z).2.1
      obtain ⟨x, h1, h2, _⟩ := shB1_reg (hv := s.1) hrb (w.2.2.2.1 hrb)
      exact ⟨x, h1, h2⟩
    obtain ⟨eK', eV', eX', eY', m', t1, t2, t3⟩ := s_given2 (s := s) hn hs hm hnv hk haR hbR
    have hg := g_lt (s := s) (b := shB1 s.1 k (fb i)) hs.1 (fun z => haR (Or.inl z))
    have t1 : f_X7_givenValue n eK eV eX eY held (nI m) (nI s.2.1) (nI k) (shA1 s.1 k (fa i)) (shB1 s.1 k (fb i)) = some (nI (sg s k (fa i) (fb i)), eK', eV', eX', eY', nI m', nI (gN s k (shA1 s.1 k (fa i)) (shB1 s.1 k (fb i)))) := t1
    have hg1 : sg s k (fa i) (fb i) < gN s k (shA1 s.1 k (fa i)) (shB1 s.1 k (fb i)) := hg.1
    rw [t1]
    simp only [Option.bind_some]
    rw [s_onlyGivesD k hk]
    simp only [Option.bind_some]
    have hgl : sg s k (fa i) (fb i) < 2 ^ 31 := by have := hg.2.2; omega
    have eN : shN s k (fd i) (fa i) (fb i) = (fun r => if r = nN (fd i) then sg s k (fa i) (fb i) else s.1 r, gN s k (shA1 s.1 k (fa i)) (shB1 s.1 k (fb i)), gT s k (shA1 s.1 k (fa i)) (shB1 s.1 k (fb i))) := by unfold shN; rw [if_pos ew]
    have hSC : SC (shN s k (fd i) (fa i) (fb i)) (upd held rd (nI (sg s k (fa i) (fb i)))) eK' eV' eX' eY' m' := by
      refine ⟨ok.1, fun r hr => ?_, ?_⟩
      · rw [eN]
        show _ = nI (if r = nN (fd i) then sg s k (fa i) (fb i) else s.1 r)
        rw [hd2, nN_nI hd1]
        by_cases z : r = rd
        · rw [z, upd_s, if_pos rfl]
        · rw [upd_n _ z, if_neg z]; exact hs.2.1 r hr
      · rw [eN]; exact t2
    have e129 : (if b2i (onK k) = 0 then f_X7_shareOne_129 n L eK' eV' eX' eY' held fa fb fd fk (nI m') (nI (gN s k (shA1 s.1 k (fa i)) (shB1 s.1 k (fb i)))) (nI i) (nI k) (fd i) (shA1 s.1 k (fa i)) (shB1 s.1 k (fb i)) (nI (sg s k (fa i) (fb i))) (-1) else (f_X7_lowestHolder n held (nI (sg s k (fa i) (fb i)))).bind (fun u24 => f_X7_shareOne_129 n L eK' eV' eX' eY' held fa fb fd fk (nI m') (nI (gN s k (shA1 s.1 k (fa i)) (shB1 s.1 k (fb i)))) (nI i) (nI k) (fd i) (shA1 s.1 k (fa i)) (shB1 s.1 k (fb i)) (nI (sg s k (fa i) (fb i))) u24)) = f_X7_shareOne_129 n L eK' eV' eX' eY' held fa fb fd fk (nI m') (nI (gN s k (shA1 s.1 k (fa i)) (shB1 s.1 k (fb i)))) (nI i) (nI k) (fd i) (shA1 s.1 k (fa i)) (shB1 s.1 k (fb i)) (nI (sg s k (fa i) (fb i))) (oI (hdr s k (sg s k (fa i) (fb i)))) := by
      unfold hdr
      cases e : onK k with
      | false => rfl
      | true =>
        rw [if_neg (show ¬ b2i true = 0 by decide), s_low (by omega) hgl hh, if_pos rfl]
        rfl
    rw [e129]
    have hx : ∀ r, hdr s k (sg s k (fa i) (fb i)) = some r → r < 8 ∧ s.1 r = sg s k (fa i) (fb i) ∧ onK k = true := fun r hr => by
      unfold hdr at hr
      by_cases z : onK k = true
      · rw [if_pos z] at hr
        have := lwG_some 8 0 hr
        exact ⟨by omega, this.1, z⟩
      · rw [if_neg z] at hr; cases hr
    have e154 : f_X7_shareOne_129 n L eK' eV' eX' eY' held fa fb fd fk (nI m') (nI (gN s k (shA1 s.1 k (fa i)) (shB1 s.1 k (fb i)))) (nI i) (nI k) (fd i) (shA1 s.1 k (fa i)) (shB1 s.1 k (fb i)) (nI (sg s k (fa i) (fb i))) (oI (hdr s k (sg s k (fa i) (fb i)))) = f_X7_shareOne_154 n L eK' eV' eX' eY' held fa fb fd fk (nI m') (nI (gN s k (shA1 s.1 k (fa i)) (shB1 s.1 k (fb i)))) (nI i) (nI k) (fd i) (shA1 s.1 k (fa i)) (shB1 s.1 k (fb i)) (nI (sg s k (fa i) (fb i))) (oI (hdr s k (sg s k (fa i) (fb i)))) (b2i (had s k (fd i) (fa i) (fb i))) := by
      unfold f_X7_shareOne_129 had
      rw [hd2, nN_nI hd1, ew, Bool.true_and, pn_gd hd1 (by omega), nI_clamp (by omega), hs.2.1 rd hd1]
      cases e : hdr s k (sg s k (fa i) (fb i)) with
      | none =>
        have : (onK k && s.1 rd == sg s k (fa i) (fb i)) = false := by
          cases e2 : (onK k && s.1 rd == sg s k (fa i) (fb i)) with
          | false => rfl
          | true =>
            simp only [Bool.and_eq_true, beq_iff_eq] at e2
            unfold hdr at e
            rw [if_pos e2.1, ← e2.2] at e
            obtain ⟨x, h1, _⟩ := lw_reg (hv := s.1) hd1
            rw [h1] at e
            cases e
        rw [this]
        rfl
      | some r =>
        obtain ⟨h1, h2, h3⟩ := hx r e
        rw [show oI (some r) = nI r from rfl, if_neg (oI_ne h1), h3, Bool.true_and]
        by_cases z : s.1 rd = sg s k (fa i) (fb i)
        · rw [if_pos (by rw [z]), z, beq_self_eq_true]; rfl
        · rw [if_neg (fun t => z (nIj t (by have := hs.1.1 rd hd1; omega) hgl))]
          have : (s.1 rd == sg s k (fa i) (fb i)) = false := by simp [z]
          rw [this]
          rfl
    rw [e154]
    unfold f_X7_shareOne_154
    have gd8 : ∀ {α : Type} {x : Option α}, gd (fd i) 8 x = x := by rw [hd2]; exact pn_gd hd1 (by omega)
    rw [gd8]
    have hcd : (fd i).toNatClampNeg = rd := by rw [hd2]; exact nI_clamp (by omega)
    rw [s_put hL hLL, s_put hL hLL, s_put hL hLL, hf, hcd]
    dsimp only [Option.bind_some]
    have q2 := putC (k := k) (k' := 2) (d := fd i) (d' := fd i) (a := fa i) (a' := oI (hdr s k (sg s k (fa i) (fb i)))) (b := fb i) (b' := 0) hk (by omega)
    have q0 := putC (k := k) (k' := 0) (d := fd i) (d' := 0) (a := fa i) (a' := 0) (b := fb i) (b' := 0) hk (by omega)
    have q1 := putC (k := k) (k' := k) (d := fd i) (d' := fd i) (a := fa i) (a' := shA1 s.1 k (fa i)) (b := fb i) (b' := shB1 s.1 k (fb i)) hk hk
    rw [gb_in (put01 _), gb_in (put01 _), gb_in (put01 _)]
    rw [show (nI (shN s k (fd i) (fa i) (fb i)).2.1) = nI (gN s k (shA1 s.1 k (fa i)) (shB1 s.1 k (fb i))) by rw [eN]]
    cases eh : had s k (fd i) (fa i) (fb i) with
    | true =>
      have c1 : shK s k (fd i) (fa i) (fb i) = 0 := by unfold shK; rw [if_pos eh]
      have c2 : shD s k (fd i) (fa i) (fb i) = 0 := by unfold shD; rw [if_pos eh]
      have c3 : shA s k (fd i) (fa i) (fb i) = 0 := by unfold shA; rw [if_pos eh]
      have c4 : shB s k (fd i) (fa i) (fb i) = 0 := by unfold shB; rw [if_pos eh]
      rw [if_neg (show ¬ b2i true = 0 by decide)]
      unfold shC
      rw [c1, c2, c3, c4, ← q0]
      exact ⟨_, _, _, _, _, m', rfl, hSC, t3⟩
    | false =>
      rw [if_pos (show b2i false = 0 by decide)]
      have c2 : shD s k (fd i) (fa i) (fb i) = fd i := by unfold shD; rw [if_neg (by rw [eh]; decide)]
      cases e : hdr s k (sg s k (fa i) (fb i)) with
      | none =>
        have c1 : shK s k (fd i) (fa i) (fb i) = k := by unfold shK; rw [if_neg (by rw [eh]; decide), if_neg (by rw [e]; simp)]
        have c3 : shA s k (fd i) (fa i) (fb i) = shA1 s.1 k (fa i) := by unfold shA; rw [if_neg (by rw [eh]; decide), if_neg (by rw [e]; simp)]
        have c4 : shB s k (fd i) (fa i) (fb i) = shB1 s.1 k (fb i) := by unfold shB; rw [if_neg (by rw [eh]; decide), if_neg (by rw [e]; simp)]
        rw [if_pos (show oI none = -1 from rfl)]
        unfold shC
        rw [c1, c2, c3, c4, ← q1]
        exact ⟨_, _, _, _, _, m', rfl, hSC, t3⟩
      | some r =>
        have c1 : shK s k (fd i) (fa i) (fb i) = 2 := by unfold shK; rw [if_neg (by rw [eh]; decide), if_pos ⟨ew, by rw [e]; rfl⟩]
        have c3 : shA s k (fd i) (fa i) (fb i) = oI (some r) := by unfold shA; rw [if_neg (by rw [eh]; decide), if_pos ⟨ew, by rw [e]; rfl⟩, e]
        have c4 : shB s k (fd i) (fa i) (fb i) = 0 := by unfold shB; rw [if_neg (by rw [eh]; decide), if_pos ⟨ew, by rw [e]; rfl⟩]
        rw [if_neg (show ¬ oI (some r) = -1 from oI_ne (hx r e).1)]
        rw [e] at q2
        unfold shC
        rw [c1, c2, c3, c4, ← q2]
        exact ⟨_, _, _, _, _, m', rfl, hSC, t3⟩
end SH2
