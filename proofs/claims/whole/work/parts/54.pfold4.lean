/-! FOLD: the class follows an instruction. -/
def flw (S : FS) (i k : Nat) (d a b : Int32) : FS := match S i with
  | none => S
  | some q => if k = 6 ∧ q (nN b) = some 0 then S else
      let q' := pst q k d a b
      let S1 := if faK k = true ∧ ¬ (k = 10 ∧ q (nN a) = some 0) then cm S (i + 1) q' else S
      if goK k = true ∧ (k = 10 → (q (nN a)).isSome = true → q (nN a) = some 0) then cm S1 (nN d) q' else S1
theorem pst_T {q : RQ} {c k : Nat} {d a b : Int32} (w : WI c k d a b) (hq : Tq q) : Tq (pst q k d a b) := fun r hr => by
  unfold pst
  by_cases e : wrK k = true
  · rw [if_pos e]
    obtain ⟨x, hx, ex⟩ := w.2.1 e
    show (if r = nN d then _ else _) = none
    rw [if_neg (by rw [ex, nN_nI hx]; omega)]
    exact hq r hr
  · rw [if_neg e]; exact hq r hr
section FC
variable {n L c i k : Nat} {S S0 : FS} {fl kn nu re fa fb fd fk : Nat → Int32} {fkn ch : Int32} {q q' : RQ} {t : Nat}
theorem s_flowTop (hc : c ≤ 24) (ht : c ≤ t) (ht2 : t ≤ 24) (hS : TS S) (hR : RelC c S kn nu re) (hU : CU c S0 ch S) : RelC c (cm S t q) kn nu re ∧ CU c S0 ch (cm S t q) := by
  have e : ∀ j, j < c → cm S t q j = S j := fun j hj => by unfold cm; rw [if_neg (by omega)]
  refine ⟨fun j hj => by rw [e j hj]; exact hR j hj, Nat.le_trans (cm_le hS (by omega)) hU.1, ?_⟩
  rcases hU.2 with h | h
  · exact Or.inl ⟨h.1, fun j hj => by rw [e j hj]; exact h.2 j hj⟩
  · exact Or.inr ⟨h.1, Nat.lt_of_le_of_lt (cm_le hS (by omega)) h.2⟩
theorem s_flowAny (hn : 8 < n) (hc : c ≤ 24) (ht : t ≤ 24) (hS : TS S) (hR : RelC c S kn nu re) (hb : IsBs fkn (fun r => (q r).isSome)) (hfl : ∀ r, r < 8 → ∀ v, q r = some v → fl r = v) (hU : CU c S0 ch S) :
    ∃ kn' nu' re' ch', f_X1_flowTo n fl kn nu re fkn ch (if t < c then nI t else (-1 : Int32)) = some (kn', nu', re', ch') ∧ RelC c (cm S t q) kn' nu' re' ∧ CU c S0 ch' (cm S t q) := by
  by_cases h : t < c
  · rw [if_pos h]; exact s_flowTo hn hc h hS hR hb hfl hU
  · rw [if_neg h, s_flowNo]
    have := s_flowTop (q := q) hc (by omega) ht hS hR hU
    exact ⟨_, _, _, _, rfl, this⟩
theorem s_follower (hi : i < L) (hLL : L < 2 ^ 31) (hf : fk i = nI k) (hk : k < 15) (hc : c < 2 ^ 31) : f_X6_follower L fk (nI c) (nI i) = some (if faK k = true ∧ i + 1 < c then nI (i + 1) else (-1 : Int32)) := by
  unfold f_X6_follower f_X6_follower_37
  rw [pn_gd hi hLL, nI_clamp (by omega), hf]
  simp only [ki9 hk, ki12 hk, pn_gd hi hLL, pn_s]
  by_cases k9 : k = 9
  · subst k9; rfl
  · by_cases k12 : k = 12
    · subst k12; rfl
    · have hfa : faK k = true := by unfold faK; simp [k9, k12]
      rw [if_neg k9, if_neg k12]
      by_cases e : i + 1 < c
      · rw [if_neg (nI_ge e hc), if_neg (show ¬ (1 : Int32) = 0 by decide), if_pos ⟨hfa, e⟩]
      · rw [if_pos (nI_le (by omega) (by omega)), if_neg (show ¬ (faK k = true ∧ i + 1 < c) from fun h => e h.2)]; rfl
theorem s_target {x : Nat} (hi : i < L) (hLL : L < 2 ^ 31) (hf : fk i = nI k) (hk : k < 15) (hc : c < 2 ^ 31) (hd : goK k = true → fd i = nI x ∧ x < 2 ^ 31) : f_X6_target L fd fk (nI c) (nI i) = some (if goK k = true ∧ x < c then nI x else (-1 : Int32)) := by
  unfold f_X6_target
  rw [pn_gd hi hLL, nI_clamp (by omega), hf, s_goesToD k hk]
  simp only [Option.bind_some, pn_gd hi hLL]
  cases e : goK k with
  | false => rfl
  | true =>
    obtain ⟨e1, e2⟩ := hd e
    rw [if_neg (by decide), e1]
    by_cases h : x < c
    · rw [if_neg (nI_ge h hc), if_pos ⟨rfl, h⟩]
    · rw [if_pos (nI_le (by omega) (by omega)), if_neg (fun z => h z.2)]
theorem s_write (hi : i < 24) (hL : i < L) (hLL : L < 2 ^ 31) (hf : fk i = nI k) (w : WI c k (fd i) (fa i) (fb i)) (hw : wrK k = true) (h : RowC q (kn i) nu i) (hb : IsBs fkn (fun r => (q r).isSome)) (hfl : ∀ r, r < 8 → ∀ v, q r = some v → fl r = v) :
    ∃ fl' fkn', f_X1_write L fl kn nu fa fb fd fk fkn (nI i) = some (fl', fkn') ∧ IsBs fkn' (fun r => (pst q k (fd i) (fa i) (fb i) r).isSome) ∧ ∀ r, r < 8 → ∀ v, pst q k (fd i) (fa i) (fb i) r = some v → fl' r = v := by
  obtain ⟨x, hx, ex⟩ := w.2.1 hw
  unfold f_X1_write
  rw [pn_gd hL hLL, s_gives hi hL hLL hf w h, nI_clamp (by omega)]
  simp only [Option.bind_some]
  have hp : ∀ r, pst q k (fd i) (fa i) (fb i) r = if r = x then gv q k (fa i) (fb i) else q r := fun r => by
    unfold pst; rw [if_pos hw, ex, nN_nI hx]
  cases e : gv q k (fa i) (fb i) with
  | none =>
    refine ⟨_, _, rfl, ?_, ?_⟩
    · rw [ex]
      refine bs_cong (bs_andn hb (bs_1 hx)) (fun r hr => ?_)
      have := hp r
      rw [ex] at this
      rw [this, e]
      by_cases z : r = x
      · simp [z]
      · simp [z]
    · intro r hr v hv
      rw [hp, e] at hv
      by_cases z : r = x
      · rw [if_pos z] at hv; cases hv
      · rw [if_neg z] at hv; exact hfl r hr v hv
  | some y =>
    rw [Option.isSome_some, if_neg (show ¬ b2i true = 0 by decide), s_given hi hL hLL hf w h e]
    simp only [Option.bind_some]
    rw [ex, pn_gd hx (by omega), nI_clamp (by omega)]
    refine ⟨_, _, rfl, ?_, ?_⟩
    · refine bs_cong (bs_or hb (bs_1 hx)) (fun r hr => ?_)
      have := hp r
      rw [ex] at this
      rw [this, e]
      by_cases z : r = x
      · simp [z]
      · simp [z]
    · intro r hr v hv
      have := hp r
      rw [ex] at this
      rw [this, e] at hv
      by_cases z : r = x
      · rw [if_pos z] at hv; rw [z, upd_s]; exact Option.some.inj hv
      · rw [if_neg z] at hv; rw [upd_n _ z]; exact hfl r hr v hv
theorem s_f143 (hn : 8 < n) (hc : c ≤ 24) (hi : i < L) (hLL : L < 2 ^ 31) (hf : fk i = nI k) (w : WI c k (fd i) (fa i) (fb i)) (hS : TS S) (hR : RelC c S kn nu re) (hb : IsBs fkn (fun r => (q r).isSome)) (hfl : ∀ r, r < 8 → ∀ v, q r = some v → fl r = v) (hU : CU c S0 ch S) :
    ∃ kn' nu' re' ch', f_X1_follow_143 n L fl kn nu re fa fb fd fk fkn ch (nI c) (nI i) = some (fl, kn', nu', re', fkn, ch') ∧ RelC c (if goK k = true then cm S (nN (fd i)) q else S) kn' nu' re' ∧ CU c S0 ch' (if goK k = true then cm S (nN (fd i)) q else S) := by
  have hk : k < 15 := by have := w.1; omega
  unfold f_X1_follow_143
  cases e : goK k with
  | false =>
    rw [s_target (x := 0) hi hLL hf hk (by omega) (fun z => by rw [e] at z; cases z)]
    simp only [Option.bind_some]
    rw [if_neg (fun z => by rw [e] at z; cases z.1), s_flowNo]
    exact ⟨_, _, _, _, rfl, hR, hU⟩
  | true =>
    obtain ⟨x, hx, ex⟩ := w.2.2.2.2.1 e
    rw [s_target (x := x) hi hLL hf hk (by omega) (fun z => ⟨ex, by omega⟩)]
    simp only [Option.bind_some]
    have : (if goK k = true ∧ x < c then nI x else (-1 : Int32)) = if x < c then nI x else (-1 : Int32) := by simp [e]
    simp only [if_true]
    rw [this, ex, nN, nI_clamp (show x < 2 ^ 31 by omega)]
    obtain ⟨kn', nu', re', ch', h1, h2, h3⟩ := s_flowAny (t := x) hn hc (by omega) hS hR hb hfl hU
    rw [h1]
    exact ⟨_, _, _, _, rfl, h2, h3⟩
end FC
