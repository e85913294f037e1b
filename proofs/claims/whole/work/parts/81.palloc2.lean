/-! ALLOCATE: the reference's interference; settling, both sides. -/
section AI
variable {n c : Nat} {kp : Nat → Nat} {p : Nat → Nat → Bool} {fa fb fd ga gb gd9 gk fs : Nat → Int32}
/-- the part of itf behind instruction j -/
def itF (kp : Nat → Nat) (D A : Nat → Int32) (p : Nat → Nat → Bool) (x y : Nat) : Nat → Nat → Bool
  | 0, _ => false
  | m + 1, j => (wrK (kp j) && ((decide (D j = nI x) && oB kp D A p j y) || (decide (D j = nI y) && oB kp D A p j x))) || itF kp D A p x y m (j + 1)
theorem itF_any {x y : Nat} : ∀ (m j : Nat), itF kp fd fa p x y m j = true ↔ ∃ i, j ≤ i ∧ i < j + m ∧ (wrK (kp i) && ((decide (fd i = nI x) && oB kp fd fa p i y) || (decide (fd i = nI y) && oB kp fd fa p i x))) = true
  | 0, j => ⟨(fun h => by cases h), (fun ⟨i, h1, h2, _⟩ => by omega)⟩
  | m + 1, j => by
    show (_ || itF kp fd fa p x y m (j + 1)) = true ↔ _
    rw [Bool.or_eq_true, itF_any m (j + 1)]
    constructor
    · rintro (h | ⟨i, h1, h2, h3⟩)
      · exact ⟨j, Nat.le_refl _, by omega, h⟩
      · exact ⟨i, by omega, by omega, h3⟩
    · rintro ⟨i, h1, h2, h3⟩
      by_cases z : i = j
      · rw [z] at h3; exact Or.inl h3
      · exact Or.inr ⟨i, by omega, by omega, h3⟩
theorem itF_eq {x y : Nat} : itF kp fd fa p x y c 0 = anyN (fun i => wrK (kp i) && ((decide (fd i = nI x) && oB kp fd fa p i y) || (decide (fd i = nI y) && oB kp fd fa p i x))) c := by
  cases e : anyN (fun i => wrK (kp i) && ((decide (fd i = nI x) && oB kp fd fa p i y) || (decide (fd i = nI y) && oB kp fd fa p i x))) c with
  | true =>
    obtain ⟨i, h1, h2⟩ := anyN_t.mp e
    exact (itF_any c 0).mpr ⟨i, Nat.zero_le _, by omega, h2⟩
  | false =>
    cases e2 : itF kp fd fa p x y c 0 with
    | false => rfl
    | true =>
      obtain ⟨i, h1, h2, h3⟩ := (itF_any c 0).mp e2
      have := (anyN_t (f := fun i => wrK (kp i) && ((decide (fd i = nI x) && oB kp fd fa p i y) || (decide (fd i = nI y) && oB kp fd fa p i x))) (m := c)).mpr ⟨i, by omega, h3⟩
      rw [e] at this
      cases this
theorem m_itf37 {x y : Nat} (hn : 30 < n) (hc : c ≤ 24) (hx : x < 8) (hy : y < 8) (hxy : x ≠ y) (hs : fs 1 = nI c) (w : WP c kp fd fa fb) (hk0 : ∀ i, i < c → gk (100 + i) = nI (kp i)) (hd0 : ∀ i, i < c → gd9 (100 + i) = fd i) (ha0 : ∀ i, i < c → ga (100 + i) = fa i) (hb0 : ∀ i, i < c → gb (100 + i) = fb i) (hp : LvS kp fd fa fb c p) : ∀ (k j : Nat) (is : Bool) {dn se : Nat → Int32}, j ≤ c → c - j < k →
    ∃ dn' se', f_X9_interfere_37 n k ga gb gd9 dn gk se fs (nI x) (nI y) (b2i is) (nI j) = some (b2i (is || itF kp fd fa p x y (c - j) j), dn', se') := by
  intro k
  induction k with
  | zero => intro j is dn se h1 h2; omega
  | succ k ih =>
    intro j is dn se hj hk
    rw [f_X9_interfere_37, show (1 : Int32) = nI 1 from pn_1, pn_gd (show 1 < 4 by omega) (by omega), nI_clamp (show 1 < 2 ^ 31 by omega), hs, ← pn_1]
    by_cases e : j = c
    · subst e
      rw [if_pos (nI_le (Nat.le_refl _) (by omega)), Nat.sub_self, gb_in (b2i_01 _)]
      exact ⟨_, _, by show _ = some (b2i (is || false), _, _); rw [Bool.or_false]⟩
    · have hlt : j < c := by omega
      have hsub : c - j = (c - (j + 1)) + 1 := by omega
      have wj := w j hlt
      have hkk : kp j < 15 := by have := wj.1; omega
      have g : ∀ {α : Type} {x : Option α}, gd (nI (100 + j)) 400 x = x := pn_gd (by omega) (by omega)
      have n13 : (kp j == 13) = false := by have := wj.1; simp; omega
      rw [if_neg (nI_ge hlt (by omega)), hsub]
      show ∃ dn' se', _ = some (b2i (is || ((wrK (kp j) && ((decide (fd j = nI x) && oB kp fd fa p j y) || (decide (fd j = nI y) && oB kp fd fa p j x))) || itF kp fd fa p x y (c - (j + 1)) (j + 1))), dn', se')
      cases is with
      | true =>
        rw [if_neg (show ¬ b2i true = 0 by decide), gb_in (b2i_01 _)]
        exact ⟨_, _, rfl⟩
      | false =>
        rw [if_pos (show b2i false = 0 by decide), pn_h]
        simp only [g, pn_s]
        rw [nI_clamp (show 100 + j < 2 ^ 31 by omega), hk0 j hlt, m_writes _ hkk, n13, Bool.or_false, hd0 j hlt]
        simp only [Option.bind_some, Bool.false_or]
        have h0 := fun dn se => ih (j + 1) false (dn := dn) (se := se) (by omega) (by omega)
        have h1 := fun dn se => ih (j + 1) true (dn := dn) (se := se) (by omega) (by omega)
        simp only [b2i_f, b2i_t, Bool.false_or, Bool.true_or] at h0 h1
        cases ew : wrK (kp j) with
        | false =>
          rw [if_pos (show b2i false = 0 by decide), Bool.false_and, Bool.false_or]
          exact h0 dn se
        | true =>
          rw [if_neg (show ¬ b2i true = 0 by decide), Bool.true_and]
          -- one of the two is written, the other is looked at
          have other : ∀ z, z < 8 → ∃ dn' se', f_X9_interfere_108 n (fun f0_done' f0_seen' x1' x2' x3' x4' => f_X9_interfere_37 n k ga gb gd9 f0_done' gk f0_seen' fs x1' x2' x3' x4') ga gb gd9 dn gk se fs (nI x) (nI y) (nI j) (nI (kp j)) (nI z) = some (b2i (oB kp fd fa p j z || itF kp fd fa p x y (c - (j + 1)) (j + 1)), dn', se') := fun z hz => by
            unfold f_X9_interfere_108 f_X9_interfere_136
            obtain ⟨dn1, se1, hb⟩ := m_liveBehind (r := z) hn hc hz hlt hs w hk0 hd0 ha0 hb0 hp dn se
            rw [if_neg (nI_pos (by omega)), pn_h, hb]
            simp only [g, pn_s, Option.bind_some, ki2 hkk]
            rw [nI_clamp (show 100 + j < 2 ^ 31 by omega), ha0 j hlt]
            have fin : oB kp fd fa p j z = aftB kp fd p j z → ∃ dn' se', (if b2i (aftB kp fd p j z) = 0 then f_X9_interfere_37 n k ga gb gd9 dn1 gk se1 fs (nI x) (nI y) 0 (nI (j + 1)) else f_X9_interfere_37 n k ga gb gd9 dn1 gk se1 fs (nI x) (nI y) 1 (nI (j + 1))) = some (b2i (oB kp fd fa p j z || itF kp fd fa p x y (c - (j + 1)) (j + 1)), dn', se') := fun ho => by
              rw [ho]
              cases aftB kp fd p j z with
              | false =>
                rw [if_pos (show b2i false = 0 by decide), Bool.false_or]
                exact h0 dn1 se1
              | true =>
                rw [if_neg (show ¬ b2i true = 0 by decide), Bool.true_or]
                obtain ⟨dn2, se2, h⟩ := h1 dn1 se1
                exact ⟨dn2, se2, h⟩
            by_cases y2 : kp j = 2
            · rw [if_pos y2]
              by_cases ya : fa j = nI z
              · have ho : oB kp fd fa p j z = false := by unfold oB; rw [y2, decide_eq_true ya]; simp
                rw [if_pos ya, ho, Bool.false_or]
                exact h0 dn se
              · rw [if_neg ya]
                exact fin (by unfold oB; rw [decide_eq_false ya, Bool.and_false, Bool.not_false, Bool.and_true])
            · rw [if_neg y2]
              refine fin ?_
              have : (kp j == 2) = false := by simp [y2]
              unfold oB
              rw [this, Bool.false_and, Bool.not_false, Bool.and_true]
          by_cases zx : fd j = nI x
          · have zy : ¬ fd j = nI y := fun t => hxy (nIj (zx.symm.trans t) (by omega) (by omega))
            rw [if_pos zx, decide_eq_true zx, decide_eq_false zy, Bool.true_and, Bool.false_and, Bool.or_false]
            exact other y hy
          · rw [if_neg zx, decide_eq_false zx, Bool.false_and, Bool.false_or]
            by_cases zy : fd j = nI y
            · rw [if_pos zy, decide_eq_true zy, Bool.true_and]
              exact other x hx
            · rw [if_neg zy, decide_eq_false zy, Bool.false_and, Bool.false_or]
              unfold f_X9_interfere_108
              rw [if_pos (by decide), pn_s]
              exact h0 dn se
theorem m_itf {x y : Nat} (hn : 30 < n) (hc : c ≤ 24) (hx : x < 8) (hy : y < 8) (hxy : x ≠ y) (hs : fs 1 = nI c) (w : WP c kp fd fa fb) (hk0 : ∀ i, i < c → gk (100 + i) = nI (kp i)) (hd0 : ∀ i, i < c → gd9 (100 + i) = fd i) (ha0 : ∀ i, i < c → ga (100 + i) = fa i) (hb0 : ∀ i, i < c → gb (100 + i) = fb i) (hp : LvS kp fd fa fb c p) (dn se : Nat → Int32) :
    ∃ dn' se', f_X9_interfere n ga gb gd9 dn gk se fs (nI x) (nI y) = some (b2i (itf kp fd fa p c x y), dn', se') := by
  have fin : ∀ (b : Bool) dn se, ∃ dn' se', f_X9_interfere_37 n n ga gb gd9 dn gk se fs (nI x) (nI y) (b2i b) 0 = some (b2i (b || itF kp fd fa p x y c 0), dn', se') := fun b dn se => m_itf37 hn hc hx hy hxy hs w hk0 hd0 ha0 hb0 hp n 0 b (by omega) (by omega)
  have l2 : ∀ z, z < 8 → ((nI z < (2 : Int32)) ↔ z < 2) := fun z hz => nI_ltI (b := 2) (by omega) (by decide)
  have lv := fun z (hz : z < 8) dn se => m_live (t0 := 0) (r := z) hn hc hz (by omega) hs w hk0 hd0 ha0 hb0 hp dn se
  have h14 : ∀ dn se, ∃ dn' se', f_X9_interfere_14 n ga gb gd9 dn gk se fs (nI x) (nI y) = some (b2i (stB p y || itF kp fd fa p x y c 0), dn', se') := fun dn se => by
    unfold f_X9_interfere_14
    simp only [l2 y hy]
    by_cases z : y < 2
    · rw [if_pos z]
      have : stB p y = true := by unfold stB; rw [decide_eq_true z, Bool.or_true]
      rw [this]
      exact fin true dn se
    · obtain ⟨dn1, se1, h⟩ := lv y hy dn se
      have h : f_X9_live n ga gb gd9 dn gk se fs (nI y) 0 = _ := h
      have hst : stB p y = p 0 y := by unfold stB; rw [decide_eq_false z, Bool.or_false]
      rw [if_neg z, h, hst]
      simp only [Option.bind_some]
      cases p 0 y with
      | false => rw [if_pos (show b2i false = 0 by decide)]; exact fin false dn1 se1
      | true => rw [if_neg (show ¬ b2i true = 0 by decide)]; exact fin true dn1 se1
  unfold f_X9_interfere itf
  rw [← itF_eq]
  simp only [l2 x hx]
  by_cases z : x < 2
  · have hst : stB p x = true := by unfold stB; rw [decide_eq_true z, Bool.or_true]
    rw [if_pos z, hst, Bool.true_and]
    exact h14 dn se
  · obtain ⟨dn1, se1, h⟩ := lv x hx dn se
    have h : f_X9_live n ga gb gd9 dn gk se fs (nI x) 0 = _ := h
    have hst : stB p x = p 0 x := by unfold stB; rw [decide_eq_false z, Bool.or_false]
    rw [if_neg z, h, hst]
    simp only [Option.bind_some]
    cases p 0 x with
    | false => rw [if_pos (show b2i false = 0 by decide), Bool.false_and]; exact fin false dn1 se1
    | true => rw [if_neg (show ¬ b2i true = 0 by decide), Bool.true_and]; exact h14 dn1 se1
/-- m is not free for r, looking from q on -/
def nfF (I : Nat → Nat → Bool) (hm : Nat → Nat) (r m : Nat) : Nat → Nat → Bool
  | 0, _ => false
  | f + 1, q => (hm q == m && I q r) || nfF I hm r m f (q + 1)
abbrev nfB (I : Nat → Nat → Bool) (hm : Nat → Nat) (r m : Nat) : Bool := nfF I hm r m r 0
theorem nfF_t {I : Nat → Nat → Bool} {hm : Nat → Nat} {r m : Nat} : ∀ (f q : Nat), nfF I hm r m f q = true ↔ ∃ z, q ≤ z ∧ z < q + f ∧ hm z = m ∧ I z r = true
  | 0, q => ⟨(fun h => by cases h), (fun ⟨i, h1, h2, _⟩ => by omega)⟩
  | f + 1, q => by
    show (_ || nfF I hm r m f (q + 1)) = true ↔ _
    rw [Bool.or_eq_true, nfF_t f (q + 1), Bool.and_eq_true, beq_iff_eq]
    constructor
    · rintro (h | ⟨i, h1, h2, h3⟩)
      · exact ⟨q, Nat.le_refl _, by omega, h⟩
      · exact ⟨i, by omega, by omega, h3⟩
    · rintro ⟨i, h1, h2, h3⟩
      by_cases z : i = q
      · rw [z] at h3; exact Or.inl h3
      · exact Or.inr ⟨i, by omega, by omega, h3⟩
/-- the lowest free one from m on -/
def lfF (I : Nat → Nat → Bool) (hm : Nat → Nat) (r : Nat) : Nat → Nat → Option Nat
  | 0, _ => none
  | f + 1, m => if nfB I hm r m = true then lfF I hm r f (m + 1) else some m
def updN (f : Nat → Nat) (i v : Nat) : Nat → Nat := fun j => if j = i then v else f j
def stH (I : Nat → Nat → Bool) (k r : Nat) (hm : Nat → Nat) (sl : Nat) : Nat → Nat := match lfF I hm r k 0 with
  | none => updN hm r (8 + sl)
  | some m => updN hm r m
def stS (I : Nat → Nat → Bool) (k r : Nat) (hm : Nat → Nat) (sl : Nat) : Nat := match lfF I hm r k 0 with
  | none => sl + 1
  | some _ => sl
/-- settling the registers from r on -/
def stF (I : Nat → Nat → Bool) (k : Nat) : Nat → Nat → (Nat → Nat) → Nat → (Nat → Nat) × Nat
  | 0, _, hm, sl => (hm, sl)
  | f + 1, r, hm, sl => stF I k f (r + 1) (stH I k r hm sl) (stS I k r hm sl)
theorem lfF_lt {I : Nat → Nat → Bool} {hm : Nat → Nat} {r : Nat} : ∀ (f m : Nat) {x : Nat}, lfF I hm r f m = some x → m ≤ x ∧ x < m + f ∧ nfB I hm r x = false
  | 0, _, _, h => by cases h
  | f + 1, m, x, h => by
    unfold lfF at h
    by_cases z : nfB I hm r m = true
    · rw [if_pos z] at h
      have := lfF_lt f (m + 1) h
      exact ⟨by omega, by omega, this.2.2⟩
    · rw [if_neg z] at h
      cases h
      exact ⟨Nat.le_refl _, by omega, eq_false_of_ne_true z⟩
def RelN (hm : Nat → Nat) (r : Nat) (ho : Nat → Int32) : Prop := ∀ q, q < r → ho q = nI (hm q) ∧ hm q < 100
theorem updN_s (f : Nat → Nat) (i v : Nat) : updN f i v i = v := by unfold updN; rw [if_pos rfl]
theorem updN_n {f : Nat → Nat} {i v j : Nat} (h : j ≠ i) : updN f i v j = f j := by unfold updN; rw [if_neg h]
theorem RelN_upd {hm : Nat → Nat} {r v : Nat} {ho : Nat → Int32} (h : RelN hm r ho) (hv : v < 100) : RelN (updN hm r v) (r + 1) (upd ho r (nI v)) := fun q hq => by
  by_cases z : q = r
  · rw [z, upd_s, updN_s]; exact ⟨rfl, hv⟩
  · rw [upd_n _ z, updN_n z]; exact h q (by omega)
theorem s_isFree {I : Nat → Nat → Bool} {C : Nat → Nat → Bool} {hm : Nat → Nat} {cf ho : Nat → Int32} {r m : Nat} (hr : r < 8) (hm8 : m < 8) (hC : RelX C cf) (hCI : ∀ q, q < r → C r q = I q r) (hH : RelN hm r ho) : ∀ (k q : Nat), q ≤ r → r - q < k → f_X0_isFree_2 n k cf ho (nI r) (nI m) (nI q) = some (b2i (!nfF I hm r m (r - q) q)) := by
  intro k
  induction k with
  | zero => intro q h1 h2; omega
  | succ k ih =>
    intro q hq hk
    rw [f_X0_isFree_2]
    by_cases e : q = r
    · subst e
      rw [if_pos (nI_le (Nat.le_refl _) (by omega)), Nat.sub_self]; rfl
    · have hlt : q < r := by omega
      have hsub : r - q = (r - (q + 1)) + 1 := by omega
      rw [if_neg (nI_ge hlt (by omega)), pn_gd (by omega) (by omega), pn_gd hr (by omega), nI_clamp (by omega), nI_clamp (by omega), (hH q hlt).1, hsub, pn_s]
      show _ = some (b2i (!((hm q == m && I q r) || nfF I hm r m (r - (q + 1)) (q + 1))))
      have hih := ih (q + 1) (by omega) (by omega)
      by_cases z : hm q = m
      · rw [if_pos (by rw [z]), z, beq_self_eq_true, Bool.true_and, ← hCI q hlt]
        by_cases y : C r q = true
        · rw [if_pos ((bs_get (hC r hr) (by omega)).mpr y), y]; rfl
        · rw [if_neg (fun t => y ((bs_get (hC r hr) (by omega)).mp t)), eq_false_of_ne_true y, Bool.false_or]
          exact hih
      · have hz : (hm q == m) = false := by simp [z]
        rw [if_neg (fun t => z (nIj t (by have := (hH q hlt).2; omega) (by omega))), hz, Bool.false_and, Bool.false_or]
        exact hih
theorem s_lowFree {I : Nat → Nat → Bool} {C : Nat → Nat → Bool} {hm : Nat → Nat} {cf ho : Nat → Int32} {r K : Nat} (hn : 8 < n) (hK : K ≤ 8) (hr : r < 8) (hC : RelX C cf) (hCI : ∀ q, q < r → C r q = I q r) (hH : RelN hm r ho) : ∀ (k m : Nat), m ≤ K → K - m < k → f_X0_lowestFree_2 n k cf ho (nI r) (nI K) (nI m) = some (oI (lfF I hm r (K - m) m)) := by
  intro k
  induction k with
  | zero => intro m h1 h2; omega
  | succ k ih =>
    intro m hm2 hk
    rw [f_X0_lowestFree_2]
    by_cases e : m = K
    · subst e
      rw [if_pos (nI_le (Nat.le_refl _) (by omega)), Nat.sub_self]; rfl
    · have hlt : m < K := by omega
      have hsub : K - m = (K - (m + 1)) + 1 := by omega
      have hfree : f_X0_isFree n cf ho (nI r) (nI m) = some (b2i (!nfB I hm r m)) := s_isFree hr (by omega) hC hCI hH n 0 (by omega) (by omega)
      rw [if_neg (nI_ge hlt (by omega)), hfree, hsub, pn_s]
      simp only [Option.bind_some]
      show _ = some (oI (if nfB I hm r m = true then lfF I hm r (K - (m + 1)) (m + 1) else some m))
      cases nfB I hm r m with
      | true => rw [if_pos (show b2i (!true) = 0 by decide), if_pos rfl]; exact ih (m + 1) (by omega) (by omega)
      | false => rw [if_neg (show ¬ b2i (!false) = 0 by decide), if_neg (by decide)]; rfl
theorem s_settle21 {I : Nat → Nat → Bool} {C : Nat → Nat → Bool} {cf : Nat → Int32} {K : Nat} (hn : 8 < n) (hK : K ≤ 8) (hC : RelX C cf) (hCI : ∀ r q, r < 8 → q < r → C r q = I q r) : ∀ (k r : Nat) {hm : Nat → Nat} {ho : Nat → Int32} {sl : Nat}, r ≤ 8 → 8 - r < k → sl ≤ r → RelN hm r ho →
    ∃ ho', f_X0_settle_21 n k cf ho (nI sl) (nI K) (nI r) = some (nI (stF I K (8 - r) r hm sl).2, ho', nI (stF I K (8 - r) r hm sl).2) ∧ RelN (stF I K (8 - r) r hm sl).1 8 ho' := by
  intro k
  induction k with
  | zero => intro r hm ho sl h1 h2; omega
  | succ k ih =>
    intro r hm ho sl hr hk hsl hH
    rw [f_X0_settle_21]
    by_cases e : r = 8
    · subst e
      rw [if_pos ((le8 (by omega)).mpr (by omega)), Nat.sub_self]
      exact ⟨ho, rfl, hH⟩
    · have hlt : r < 8 := by omega
      have hsub : 8 - r = (8 - (r + 1)) + 1 := by omega
      have hlow : f_X0_lowestFree n cf ho (nI r) (nI K) = some (oI (lfF I hm r K 0)) := s_lowFree hn hK hlt hC (fun q hq => hCI r q hlt hq) hH n 0 (by omega) (by omega)
      rw [if_neg (fun z => e (by have := (le8 (by omega)).mp z; omega)), hlow, hsub]
      simp only [Option.bind_some, pn_gd hlt (show 8 < 2 ^ 31 by omega), pn_s]
      rw [nI_clamp (by omega)]
      show ∃ ho', _ = some (nI (stF I K (8 - (r + 1)) (r + 1) (stH I K r hm sl) (stS I K r hm sl)).2, ho', nI (stF I K (8 - (r + 1)) (r + 1) (stH I K r hm sl) (stS I K r hm sl)).2) ∧ RelN (stF I K (8 - (r + 1)) (r + 1) (stH I K r hm sl) (stS I K r hm sl)).1 8 ho'
      unfold stH stS
      cases el : lfF I hm r K 0 with
      | none =>
        rw [if_pos (show oI none = -1 from rfl), show (8 : Int32) + nI sl = nI (8 + sl) from nI_add 8 sl]
        exact ih (r + 1) (by omega) (by omega) (by omega) (RelN_upd hH (by omega))
      | some m =>
        have := lfF_lt K 0 el
        rw [show oI (some m) = nI m from rfl, if_neg (oI_ne (by omega))]
        exact ih (r + 1) (by omega) (by omega) (by omega) (RelN_upd hH (by omega))
def hm0 : Nat → Nat := updN (updN (fun _ => 0) 0 0) 1 1
abbrev stK (I : Nat → Nat → Bool) (K : Nat) : (Nat → Nat) × Nat := stF I K 6 2 hm0 0
theorem s_settle {I : Nat → Nat → Bool} {C : Nat → Nat → Bool} {cf : Nat → Int32} {K : Nat} (hn : 8 < n) (hK : K ≤ 8) (hC : RelX C cf) (hCI : ∀ r q, r < 8 → q < r → C r q = I q r) (ho : Nat → Int32) (v : Int32) :
    ∃ ho', f_X0_settle n cf ho v (nI K) = some (nI (stK I K).2, ho', nI (stK I K).2) ∧ RelN (stK I K).1 8 ho' := by
  unfold f_X0_settle
  rw [show (0 : Int32) = nI 0 from pn_0, show (1 : Int32) = nI 1 from pn_1, pn_gd (by omega) (by omega), pn_gd (by omega) (by omega), nI_clamp (by omega), nI_clamp (by omega)]
  refine s_settle21 hn hK hC hCI n 2 (by omega) (by omega) (by omega) (RelN_upd (r := 1) (v := 1) (RelN_upd (r := 0) (v := 0) (fun q hq => by omega) (by omega)) (by omega))
end AI
