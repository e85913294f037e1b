section AS
variable {n c : Nat} {kp : Nat → Nat} {p : Nat → Nat → Bool} {fa fb fd ga gb gd9 gk fs : Nat → Int32}
theorem m_settle48 {hm : Nat → Nat} {r m K : Nat} (hn : 30 < n) (hc : c ≤ 24) (hr : r < 8) (hm8 : m < 8) (hs : fs 1 = nI c) (w : WP c kp fd fa fb) (hk0 : ∀ i, i < c → gk (100 + i) = nI (kp i)) (hd0 : ∀ i, i < c → gd9 (100 + i) = fd i) (ha0 : ∀ i, i < c → ga (100 + i) = fa i) (hb0 : ∀ i, i < c → gb (100 + i) = fb i) (hp : LvS kp fd fa fb c p) {ho : Nat → Int32} (hH : RelN hm r ho) (v : Int32)
    (K21 : (Nat → Int32) → (Nat → Int32) → (Nat → Int32) → Int32 → Int32 → Int32 → Option (Int32 × (Nat → Int32) × (Nat → Int32) × (Nat → Int32) × Int32)) (K32 : (Nat → Int32) → (Nat → Int32) → (Nat → Int32) → Int32 → Int32 → Int32 → Int32 → Int32 → Option (Int32 × (Nat → Int32) × (Nat → Int32) × (Nat → Int32) × Int32)) : ∀ (k q : Nat) (fr : Bool) {dn se : Nat → Int32}, q ≤ r → r - q < k →
    ∃ dn' se', f_X9_settle_48 n K21 K32 k ga gb gd9 dn ho gk se fs v (nI K) (nI r) (nI m) (b2i fr) (nI q) = K32 dn' ho se' v (nI K) (nI r) (nI (if (fr && !nfF (itf kp fd fa p c) hm r m (r - q) q) = true then m else m + 1)) (b2i (fr && !nfF (itf kp fd fa p c) hm r m (r - q) q)) := by
  intro k
  induction k with
  | zero => intro q fr dn se h1 h2; omega
  | succ k ih =>
    intro q fr dn se hq hk
    rw [f_X9_settle_48]
    by_cases e : q = r
    · subst e
      rw [if_pos (nI_le (Nat.le_refl _) (by omega)), Nat.sub_self, pn_s]
      show ∃ dn' se', _ = K32 dn' ho se' v (nI K) (nI q) (nI (if (fr && !false) = true then m else m + 1)) (b2i (fr && !false))
      rw [Bool.not_false, Bool.and_true]
      cases fr with
      | false => exact ⟨_, _, rfl⟩
      | true => exact ⟨_, _, rfl⟩
    · have hlt : q < r := by omega
      have hsub : r - q = (r - (q + 1)) + 1 := by omega
      rw [if_neg (nI_ge hlt (by omega)), hsub, pn_s]
      show ∃ dn' se', _ = K32 dn' ho se' v (nI K) (nI r) (nI (if (fr && !((hm q == m && itf kp fd fa p c q r) || nfF (itf kp fd fa p c) hm r m (r - (q + 1)) (q + 1))) = true then m else m + 1)) (b2i (fr && !((hm q == m && itf kp fd fa p c q r) || nfF (itf kp fd fa p c) hm r m (r - (q + 1)) (q + 1))))
      have h0 := fun dn se => ih (q + 1) false (dn := dn) (se := se) (by omega) (by omega)
      have h1 := fun dn se => ih (q + 1) true (dn := dn) (se := se) (by omega) (by omega)
      simp only [b2i_f, b2i_t, Bool.false_and, Bool.true_and] at h0 h1
      cases fr with
      | false =>
        rw [if_pos (show b2i false = 0 by decide), Bool.false_and]
        exact h0 dn se
      | true =>
        rw [if_neg (show ¬ b2i true = 0 by decide), pn_gd (by omega) (by omega), nI_clamp (by omega), (hH q hlt).1, Bool.true_and]
        by_cases z : hm q = m
        · obtain ⟨dn1, se1, hi⟩ := m_itf (x := q) (y := r) hn hc (by omega) hr (by omega) hs w hk0 hd0 ha0 hb0 hp dn se
          rw [if_pos (by rw [z]), hi, z, beq_self_eq_true, Bool.true_and]
          simp only [Option.bind_some]
          cases itf kp fd fa p c q r with
          | false =>
            rw [if_pos (show b2i false = 0 by decide), Bool.false_or]
            exact h1 dn1 se1
          | true =>
            rw [if_neg (show ¬ b2i true = 0 by decide), Bool.true_or, Bool.not_true]
            exact h0 dn1 se1
        · have hz : (hm q == m) = false := by simp [z]
          rw [if_neg (fun t => z (nIj t (by have := (hH q hlt).2; omega) (by omega))), hz, Bool.false_and, Bool.false_or]
          exact h1 dn se
theorem m_settle32 {hm : Nat → Nat} {r K : Nat} (hn : 30 < n) (hc : c ≤ 24) (hr : r < 8) (hK : K ≤ 8) (hs : fs 1 = nI c) (w : WP c kp fd fa fb) (hk0 : ∀ i, i < c → gk (100 + i) = nI (kp i)) (hd0 : ∀ i, i < c → gd9 (100 + i) = fd i) (ha0 : ∀ i, i < c → ga (100 + i) = fa i) (hb0 : ∀ i, i < c → gb (100 + i) = fb i) (hp : LvS kp fd fa fb c p) {ho : Nat → Int32} (hH : RelN hm r ho) (v : Int32)
    (K21 : (Nat → Int32) → (Nat → Int32) → (Nat → Int32) → Int32 → Int32 → Int32 → Option (Int32 × (Nat → Int32) × (Nat → Int32) × (Nat → Int32) × Int32)) : ∀ (k m : Nat) {dn se : Nat → Int32}, m ≤ K → K - m + 1 < k →
    ∃ dn' se', f_X9_settle_32 n K21 k ga gb gd9 dn ho gk se fs v (nI K) (nI r) (nI m) 0 = (match lfF (itf kp fd fa p c) hm r (K - m) m with
      | none => f_X9_settle_109 n K21 ga gb gd9 dn' ho gk se' fs v (nI K) (nI r) (nI K) 0
      | some x => f_X9_settle_109 n K21 ga gb gd9 dn' ho gk se' fs v (nI K) (nI r) (nI x) 1) := by
  intro k
  induction k with
  | zero => intro m dn se h1 h2; omega
  | succ k ih =>
    intro m dn se hm2 hk
    rw [f_X9_settle_32]
    by_cases e : m = K
    · subst e
      rw [if_pos (nI_le (Nat.le_refl _) (by omega)), Nat.sub_self]
      exact ⟨_, _, rfl⟩
    · have hlt : m < K := by omega
      have hsub : K - m = (K - (m + 1)) + 1 := by omega
      rw [if_neg (nI_ge hlt (by omega)), if_pos rfl, hsub]
      obtain ⟨dn1, se1, h1⟩ := m_settle48 (n := n) (K := K) (m := m) hn hc hr (by omega) hs w hk0 hd0 ha0 hb0 hp hH v K21 (fun f0_done' f0_home' f0_seen' v0_slots' x1' x2' x3' x4' => f_X9_settle_32 n K21 k ga gb gd9 f0_done' f0_home' gk f0_seen' fs v0_slots' x1' x2' x3' x4') n 0 true (dn := dn) (se := se) (by omega) (by omega)
      rw [b2i_t, ← pn_0, Nat.sub_zero, Bool.true_and] at h1
      rw [h1]
      unfold lfF
      cases en : nfB (itf kp fd fa p c) hm r m with
      | true =>
        rw [show nfF (itf kp fd fa p c) hm r m r 0 = true from en, Bool.not_true, if_neg (by decide)]
        show ∃ dn' se', f_X9_settle_32 n K21 k ga gb gd9 dn1 ho gk se1 fs v (nI K) (nI r) (nI (m + 1)) 0 = _
        exact ih (m + 1) (by omega) (by omega)
      | false =>
        rw [show nfF (itf kp fd fa p c) hm r m r 0 = false from en, Bool.not_false, if_pos rfl]
        show ∃ dn' se', f_X9_settle_32 n K21 k ga gb gd9 dn1 ho gk se1 fs v (nI K) (nI r) (nI m) 1 = _
        obtain ⟨k, rfl⟩ : ∃ k', k = k' + 1 := ⟨k - 1, by omega⟩
        rw [f_X9_settle_32, if_neg (nI_ge hlt (by omega)), if_neg (show ¬ (1 : Int32) = 0 by decide)]
        exact ⟨dn1, se1, rfl⟩
theorem m_settle21 {K : Nat} (hn : 30 < n) (hc : c ≤ 24) (hK : K ≤ 8) (hs : fs 1 = nI c) (w : WP c kp fd fa fb) (hk0 : ∀ i, i < c → gk (100 + i) = nI (kp i)) (hd0 : ∀ i, i < c → gd9 (100 + i) = fd i) (ha0 : ∀ i, i < c → ga (100 + i) = fa i) (hb0 : ∀ i, i < c → gb (100 + i) = fb i) (hp : LvS kp fd fa fb c p) : ∀ (k r : Nat) {hm : Nat → Nat} {ho dn se : Nat → Int32} {sl : Nat}, r ≤ 8 → 8 - r < k → sl ≤ r → RelN hm r ho →
    ∃ dn' ho' se', f_X9_settle_21 n k ga gb gd9 dn ho gk se fs (nI sl) (nI K) (nI r) = some (nI (stF (itf kp fd fa p c) K (8 - r) r hm sl).2, dn', ho', se', nI (stF (itf kp fd fa p c) K (8 - r) r hm sl).2) ∧ RelN (stF (itf kp fd fa p c) K (8 - r) r hm sl).1 8 ho' := by
  intro k
  induction k with
  | zero => intro r hm ho dn se sl h1 h2; omega
  | succ k ih =>
    intro r hm ho dn se sl hr hk hsl hH
    rw [f_X9_settle_21]
    by_cases e : r = 8
    · subst e
      rw [if_pos ((le8 (by omega)).mpr (by omega)), Nat.sub_self]
      exact ⟨dn, ho, se, rfl, hH⟩
    · have hlt : r < 8 := by omega
      have hsub : 8 - r = (8 - (r + 1)) + 1 := by omega
      obtain ⟨dn1, se1, h1⟩ := m_settle32 (n := n) (K := K) hn hc hlt hK hs w hk0 hd0 ha0 hb0 hp hH (nI sl) (fun f0_done' f0_home' f0_seen' v0_slots' x1' x2' => f_X9_settle_21 n k ga gb gd9 f0_done' f0_home' gk f0_seen' fs v0_slots' x1' x2') n 0 (dn := dn) (se := se) (by omega) (by omega)
      rw [← pn_0, Nat.sub_zero] at h1
      rw [if_neg (fun z => e (by have := (le8 (by omega)).mp z; omega)), h1, hsub]
      show ∃ dn' ho' se', _ = some (nI (stF (itf kp fd fa p c) K (8 - (r + 1)) (r + 1) (stH (itf kp fd fa p c) K r hm sl) (stS (itf kp fd fa p c) K r hm sl)).2, dn', ho', se', nI (stF (itf kp fd fa p c) K (8 - (r + 1)) (r + 1) (stH (itf kp fd fa p c) K r hm sl) (stS (itf kp fd fa p c) K r hm sl)).2) ∧ RelN (stF (itf kp fd fa p c) K (8 - (r + 1)) (r + 1) (stH (itf kp fd fa p c) K r hm sl) (stS (itf kp fd fa p c) K r hm sl)).1 8 ho'
      unfold stH stS f_X9_settle_109 f_X9_settle_130
      cases el : lfF (itf kp fd fa p c) hm r K 0 with
      | none =>
        show ∃ dn' ho' se', (if (0 : Int32) = 0 then _ else _) = _ ∧ _
        rw [if_pos rfl, pn_gd hlt (by omega), if_pos rfl, nI_clamp (by omega), pn_s, pn_s, show (8 : Int32) + nI sl = nI (8 + sl) from nI_add 8 sl]
        exact ih (r + 1) (by omega) (by omega) (by omega) (RelN_upd hH (by omega))
      | some m =>
        have := lfF_lt K 0 el
        show ∃ dn' ho' se', (if (1 : Int32) = 0 then _ else _) = _ ∧ _
        rw [if_neg (show ¬ (1 : Int32) = 0 by decide), pn_gd hlt (by omega), if_neg (show ¬ (1 : Int32) = 0 by decide), nI_clamp (by omega), pn_s]
        exact ih (r + 1) (by omega) (by omega) (by omega) (RelN_upd hH (by omega))
theorem m_settle {K : Nat} (hn : 30 < n) (hc : c ≤ 24) (hK : K ≤ 8) (hs : fs 1 = nI c) (w : WP c kp fd fa fb) (hk0 : ∀ i, i < c → gk (100 + i) = nI (kp i)) (hd0 : ∀ i, i < c → gd9 (100 + i) = fd i) (ha0 : ∀ i, i < c → ga (100 + i) = fa i) (hb0 : ∀ i, i < c → gb (100 + i) = fb i) (hp : LvS kp fd fa fb c p) (ho dn se : Nat → Int32) (v : Int32) :
    ∃ dn' ho' se', f_X9_settle n ga gb gd9 dn ho gk se fs v (nI K) = some (nI (stK (itf kp fd fa p c) K).2, dn', ho', se', nI (stK (itf kp fd fa p c) K).2) ∧ RelN (stK (itf kp fd fa p c) K).1 8 ho' := by
  unfold f_X9_settle
  rw [show (0 : Int32) = nI 0 from pn_0, show (1 : Int32) = nI 1 from pn_1, pn_gd (by omega) (by omega), pn_gd (by omega) (by omega), nI_clamp (by omega), nI_clamp (by omega)]
  exact m_settle21 hn hc hK hs w hk0 hd0 ha0 hb0 hp n 2 (by omega) (by omega) (by omega) (RelN_upd (r := 1) (v := 1) (RelN_upd (r := 0) (v := 0) (fun q hq => by omega) (by omega)) (by omega))
/-- what is sure of the homes -/
def HomeOK (I : Nat → Nat → Bool) (K r : Nat) (hm : Nat → Nat) (sl : Nat) : Prop := (∀ q, q < r → hm q < K ∨ (8 ≤ hm q ∧ hm q < 8 + sl)) ∧ ∀ q z, q < z → z < r → hm q = hm z → hm q < 8 ∧ I q z = false
theorem stF_ok {I : Nat → Nat → Bool} {K : Nat} (hK : K ≤ 8) (hK2 : 2 ≤ K) : ∀ (f r : Nat) {hm : Nat → Nat} {sl : Nat}, r + f = 8 → sl ≤ r → HomeOK I K r hm sl → HomeOK I K 8 (stF I K f r hm sl).1 (stF I K f r hm sl).2 ∧ (stF I K f r hm sl).2 ≤ 8 ∧ (∀ q, q < r → (stF I K f r hm sl).1 q = hm q)
  | 0, r, hm, sl, h, hsl, ok => by
    rw [show 8 = r by omega]
    exact ⟨ok, by show sl ≤ r; omega, fun q _ => rfl⟩
  | f + 1, r, hm, sl, h, hsl, ok => by
    have hst : HomeOK I K (r + 1) (stH I K r hm sl) (stS I K r hm sl) ∧ stS I K r hm sl ≤ r + 1 ∧ ∀ q, q < r → stH I K r hm sl q = hm q := by
      unfold stH stS
      cases el : lfF I hm r K 0 with
      | none =>
        refine ⟨⟨fun q hq => ?_, fun q z hqz hz he => ?_⟩, by show sl + 1 ≤ r + 1; omega, fun q hq => updN_n (by omega)⟩
        · show updN hm r (8 + sl) q < K ∨ _
          by_cases y : q = r
          · rw [y]; show updN hm r (8 + sl) r < K ∨ (8 ≤ updN hm r (8 + sl) r ∧ updN hm r (8 + sl) r < 8 + (sl + 1)); rw [updN_s]; omega
          · show updN hm r (8 + sl) q < K ∨ (8 ≤ updN hm r (8 + sl) q ∧ updN hm r (8 + sl) q < 8 + (sl + 1)); rw [updN_n y]; have := ok.1 q (by omega); omega
        · have he : updN hm r (8 + sl) q = updN hm r (8 + sl) z := he
          show updN hm r (8 + sl) q < 8 ∧ _
          rw [updN_n (show q ≠ r by omega)] at he ⊢
          by_cases y : z = r
          · rw [y, updN_s] at he
            have := ok.1 q (by omega)
            omega
          · rw [updN_n y] at he
            exact ok.2 q z hqz (by omega) he
      | some m =>
        have hl := lfF_lt K 0 el
        refine ⟨⟨fun q hq => ?_, fun q z hqz hz he => ?_⟩, by show sl ≤ r + 1; omega, fun q hq => updN_n (by omega)⟩
        · by_cases y : q = r
          · rw [y]; show updN hm r m r < K ∨ _; rw [updN_s]; exact Or.inl (by omega)
          · show updN hm r m q < K ∨ (8 ≤ updN hm r m q ∧ updN hm r m q < 8 + sl); rw [updN_n y]; exact ok.1 q (by omega)
        · have he : updN hm r m q = updN hm r m z := he
          show updN hm r m q < 8 ∧ _
          rw [updN_n (show q ≠ r by omega)] at he ⊢
          by_cases y : z = r
          · rw [y, updN_s] at he
            refine ⟨by omega, ?_⟩
            rw [y]
            cases ei : I q r with
            | false => rfl
            | true =>
              have : nfB I hm r m = true := (nfF_t r 0).mpr ⟨q, Nat.zero_le _, by omega, he, ei⟩
              rw [hl.2.2] at this
              cases this
          · rw [updN_n y] at he
            exact ok.2 q z hqz (by omega) he
    have := stF_ok hK hK2 f (r + 1) (by omega) hst.2.1 hst.1
    refine ⟨this.1, this.2.1, fun q hq => ?_⟩
    show (stF I K f (r + 1) (stH I K r hm sl) (stS I K r hm sl)).1 q = hm q
    rw [this.2.2 q (by omega), hst.2.2 q hq]
theorem stK_ok {I : Nat → Nat → Bool} {K : Nat} (hK : K ≤ 8) (hK2 : 2 ≤ K) : HomeOK I K 8 (stK I K).1 (stK I K).2 ∧ (stK I K).2 ≤ 8 ∧ (stK I K).1 0 = 0 ∧ (stK I K).1 1 = 1 := by
  have h0 : hm0 0 = 0 := rfl
  have h1 : hm0 1 = 1 := rfl
  have := stF_ok (I := I) hK hK2 6 2 (hm := hm0) (sl := 0) (by omega) (by omega) ⟨fun q hq => by
    have : q = 0 ∨ q = 1 := by omega
    rcases this with rfl | rfl
    · rw [h0]; omega
    · rw [h1]; omega, fun q z h2 h3 he => by
    have e1 : q = 0 := by omega
    have e2 : z = 1 := by omega
    rw [e1, e2, h0, h1] at he
    omega⟩
  exact ⟨this.1, this.2.1, (this.2.2 0 (by omega)).trans h0, (this.2.2 1 (by omega)).trans h1⟩
end AS
