/-! ALLOCATE: who interferes, both sides. -/
def anyN (f : Nat → Bool) : Nat → Bool
  | 0 => false
  | m + 1 => anyN f m || f m
theorem anyN_t {f : Nat → Bool} : ∀ {m : Nat}, anyN f m = true ↔ ∃ i, i < m ∧ f i = true
  | 0 => ⟨(fun h => by cases h), (fun ⟨i, h, _⟩ => by omega)⟩
  | m + 1 => by
    show (anyN f m || f m) = true ↔ _
    rw [Bool.or_eq_true, anyN_t]
    constructor
    · rintro (⟨i, h1, h2⟩ | h)
      · exact ⟨i, by omega, h2⟩
      · exact ⟨m, by omega, h⟩
    · rintro ⟨i, h1, h2⟩
      by_cases z : i = m
      · rw [z] at h2; exact Or.inr h2
      · exact Or.inl ⟨i, by omega, h2⟩
theorem anyN_cong {f g : Nat → Bool} : ∀ {m : Nat}, (∀ i, i < m → f i = g i) → anyN f m = anyN g m
  | 0, _ => rfl
  | m + 1, h => by
    show (anyN f m || f m) = (anyN g m || g m)
    rw [anyN_cong (fun i hi => h i (by omega)), h m (by omega)]
/-- the pair (r, q) when x conflicts with all of O -/
def prB (x : Nat) (O : Nat → Bool) (r q : Nat) : Bool := (r == x && O q && !(q == x)) || (q == x && O r && !(r == x))
section AC
variable {n L c : Nat} {kp : Nat → Nat} {p : Nat → Nat → Bool} {fa fb fd fk bf ga gb gd9 gk fs : Nat → Int32}
def RelX (C : Nat → Nat → Bool) (cf : Nat → Int32) : Prop := ∀ r, r < 8 → IsBs (cf r) (C r)
theorem s_addC18 {x : Nat} {o : Int32} {O : Nat → Bool} (hx : x < 8) (hO : IsBs o O) (C0 : Nat → Nat → Bool) : ∀ (k j : Nat) {cf : Nat → Int32}, j ≤ 8 → 8 - j < k → (∀ r, r < 8 → IsBs (cf r) (fun q => C0 r q || (decide (r < j) && (q == x && O r && !(r == x))))) →
    ∃ cf', f_X0_addConflicts_18 n k cf (nI x) o (nI j) = some cf' ∧ ∀ r, r < 8 → IsBs (cf' r) (fun q => C0 r q || (q == x && O r && !(r == x))) := by
  intro k
  induction k with
  | zero => intro j cf h1 h2; omega
  | succ k ih =>
    intro j cf hj hk h
    rw [f_X0_addConflicts_18]
    by_cases e : j = 8
    · rw [if_pos ((le8 (by omega)).mpr (by omega))]
      exact ⟨_, rfl, fun r hr => bs_cong (h r hr) (fun q _ => by rw [decide_eq_true (by omega), Bool.true_and])⟩
    · have hlt : j < 8 := by omega
      rw [if_neg (fun z => e (by have := (le8 (by omega)).mp z; omega)), pn_s]
      have same : (O j && !(j == x)) = false → ∀ r, r < 8 → IsBs (cf r) (fun q => C0 r q || (decide (r < j + 1) && (q == x && O r && !(r == x)))) := fun hz r hr => bs_cong (h r hr) (fun q _ => by
        by_cases z : r = j
        · rw [z, decide_eq_false (by omega), decide_eq_true (by omega), Bool.false_and, Bool.true_and, Bool.and_assoc, hz, Bool.and_false]
        · have : decide (r < j + 1) = decide (r < j) := by
            by_cases y : r < j
            · rw [decide_eq_true y, decide_eq_true (by omega)]
            · rw [decide_eq_false y, decide_eq_false (by omega)]
          rw [this])
      by_cases z : j = x
      · rw [if_pos (by rw [z])]
        exact ih (j + 1) (by omega) (by omega) (same (by rw [z]; simp))
      · rw [if_neg (fun t => z (nIj t (by omega) (by omega)))]
        have hz : (j == x) = false := by simp [z]
        by_cases y : O j = true
        · rw [if_pos ((bs_get hO hlt).mpr y), pn_gd hlt (by omega), pn_gd hlt (by omega), nI_clamp (by omega)]
          refine ih (j + 1) (by omega) (by omega) (fun r hr => ?_)
          by_cases v : r = j
          · rw [v, upd_s]
            refine bs_cong (bs_or (h j hlt) (bs_1 hx)) (fun q _ => ?_)
            rw [decide_eq_false (by omega), decide_eq_true (by omega), y, hz]
            cases C0 j q <;> cases (q == x) <;> rfl
          · rw [upd_n _ v]
            refine bs_cong (h r hr) (fun q _ => ?_)
            have : decide (r < j + 1) = decide (r < j) := by
              by_cases y : r < j
              · rw [decide_eq_true y, decide_eq_true (by omega)]
              · rw [decide_eq_false y, decide_eq_false (by omega)]
            rw [this]
        · rw [if_neg (fun t => y ((bs_get hO hlt).mp t))]
          exact ih (j + 1) (by omega) (by omega) (same (by rw [eq_false_of_ne_true y]; rfl))
theorem s_addC {x : Nat} {o : Int32} {O : Nat → Bool} {C : Nat → Nat → Bool} {cf : Nat → Int32} (hn : 8 < n) (hx : x < 8) (hO : IsBs o O) (hC : RelX C cf) :
    ∃ cf', f_X0_addConflicts n cf (nI x) o = some cf' ∧ RelX (fun r q => C r q || prB x O r q) cf' := by
  unfold f_X0_addConflicts
  rw [pn_gd hx (by omega), pn_gd hx (by omega), nI_clamp (by omega)]
  obtain ⟨cf', h1, h2⟩ := s_addC18 (n := n) hx hO (fun r q => C r q || (r == x && O q && !(q == x))) n 0 (cf := upd cf x (cf x ||| (o &&& ((1 : Int32) <<< (nI x &&& 31) ^^^ (-1 : Int32))))) (by omega) (by omega) (fun r hr => by
    by_cases z : r = x
    · rw [z, upd_s]
      refine bs_cong (bs_or (hC x hx) (bs_andn hO (bs_1 hx))) (fun q _ => ?_)
      rw [beq_self_eq_true, decide_eq_false (by omega)]
      cases C x q <;> cases O q <;> cases (q == x) <;> rfl
    · rw [upd_n _ z]
      refine bs_cong (hC r hr) (fun q _ => ?_)
      have hz : (r == x) = false := by simp [z]
      rw [hz, decide_eq_false (by omega)]
      cases C r q <;> rfl)
  refine ⟨cf', h1, fun r hr => bs_cong (h2 r hr) (fun q _ => ?_)⟩
  unfold prB
  rw [Bool.or_assoc]
/-- live at the start, the arguments too -/
def stB (p : Nat → Nat → Bool) (r : Nat) : Bool := p 0 r || decide (r < 2)
/-- live behind i, and not what a MOVE moves -/
def oB (kp : Nat → Nat) (D A : Nat → Int32) (p : Nat → Nat → Bool) (i z : Nat) : Bool := aftB kp D p i z && !(kp i == 2 && decide (A i = nI z))
def cfB (kp : Nat → Nat) (D A : Nat → Int32) (p : Nat → Nat → Bool) (c r q : Nat) : Bool := anyN (fun x => stB p x && prB x (stB p) r q) 8 || anyN (fun i => wrK (kp i) && prB (nN (D i)) (oB kp D A p i) r q) c
theorem s_findC53 (hn : 8 < n) (hc : c ≤ 24) (hL : c ≤ L) (hLL : L < 2 ^ 31) (hf : ∀ i, i < c → fk i = nI (kp i)) (w : WP c kp fd fa fb) (hp : RelL c p bf) (C0 : Nat → Nat → Bool) : ∀ (k j : Nat) {cf : Nat → Int32}, j ≤ c → c - j < k → RelX (fun r q => C0 r q || anyN (fun i => wrK (kp i) && prB (nN (fd i)) (oB kp fd fa p i) r q) j) cf →
    ∃ cf', f_X0_findConflicts_53 n k L cf fa fd fk bf (nI c) (nI j) = some cf' ∧ RelX (fun r q => C0 r q || anyN (fun i => wrK (kp i) && prB (nN (fd i)) (oB kp fd fa p i) r q) c) cf' := by
  intro k
  induction k with
  | zero => intro j cf h1 h2; omega
  | succ k ih =>
    intro j cf hj hk h
    rw [f_X0_findConflicts_53]
    by_cases e : j = c
    · subst e
      rw [if_pos (nI_le (Nat.le_refl _) (by omega))]
      exact ⟨_, rfl, h⟩
    · have hlt : j < c := by omega
      have wj := w j hlt
      have hkk : kp j < 15 := by have := wj.1; omega
      have g : ∀ {α : Type} {x : Option α}, gd (nI j) L x = x := pn_gd (by omega) hLL
      rw [if_neg (nI_ge hlt (by omega))]
      simp only [g, pn_s]
      rw [nI_clamp (by omega), hf j hlt, s_writesD _ hkk]
      simp only [Option.bind_some, ki2 hkk]
      cases ew : wrK (kp j) with
      | false =>
        rw [if_pos (show b2i false = 0 by decide)]
        refine ih (j + 1) (by omega) (by omega) (fun r hr => bs_cong (h r hr) (fun q _ => ?_))
        show _ = (C0 r q || (anyN _ j || (wrK (kp j) && _)))
        rw [ew, Bool.false_and, Bool.or_false]
      | true =>
        rw [if_neg (show ¬ b2i true = 0 by decide)]
        obtain ⟨rd, hr1, hr2⟩ := wj.2.1 ew
        obtain ⟨y, a1, a2⟩ := s_after hc hlt hL hLL (hf j hlt) wj hp
        have step : ∀ (mv : Int32) (M : Nat → Bool), IsBs mv M → (∀ z, z < 8 → M z = (kp j == 2 && decide (fa j = nI z))) → ∃ cf', f_X0_findConflicts_99 n (fun f0_conflicts' x4' => f_X0_findConflicts_53 n k L f0_conflicts' fa fd fk bf (nI c) x4') L cf fa fd fk bf (nI c) (nI j) mv = some cf' ∧ RelX (fun r q => C0 r q || anyN (fun i => wrK (kp i) && prB (nN (fd i)) (oB kp fd fa p i) r q) c) cf' := fun mv M hM hM2 => by
          unfold f_X0_findConflicts_99
          rw [g, a1, nI_clamp (by omega), hr2]
          simp only [Option.bind_some, pn_s]
          obtain ⟨cf1, b1, b2⟩ := s_addC (x := rd) hn hr1 (bs_cong (bs_andn a2 hM) (q := oB kp fd fa p j) (fun z hz => by unfold oB; rw [hM2 z hz])) h
          rw [b1]
          simp only [Option.bind_some]
          refine ih (j + 1) (by omega) (by omega) (fun r hr => bs_cong (b2 r hr) (fun q _ => ?_))
          show _ = (C0 r q || (anyN _ j || (wrK (kp j) && prB (nN (fd j)) (oB kp fd fa p j) r q)))
          rw [ew, Bool.true_and, hr2, nN_nI hr1]
          exact Bool.or_assoc _ _ _
        by_cases z : kp j = 2
        · obtain ⟨ra, ha1, ha2⟩ := wj.2.2.1 (by rw [z]; decide)
          rw [if_pos z, ha2]
          refine step _ _ (bs_1 ha1) (fun x hx => ?_)
          rw [z, ha2]
          show (x == ra) = (true && decide (nI ra = nI x))
          by_cases y : x = ra
          · rw [y]; simp
          · rw [decide_eq_false (fun h => y (nIj h (by omega) (by omega)).symm)]; simp [y]
        · rw [if_neg z]
          refine step _ _ bs_0 (fun x hx => ?_)
          have : (kp j == 2) = false := by simp [z]
          rw [this]; rfl
theorem s_findC20 (hn : 24 < n) (hc : c ≤ 24) (hL : c ≤ L) (hLL : L < 2 ^ 31) (hf : ∀ i, i < c → fk i = nI (kp i)) (w : WP c kp fd fa fb) (hp : RelL c p bf) {o : Int32} (hO : IsBs o (stB p)) : ∀ (k j : Nat) {cf : Nat → Int32}, j ≤ 8 → 8 - j < k → RelX (fun r q => anyN (fun x => stB p x && prB x (stB p) r q) j) cf →
    ∃ cf', f_X0_findConflicts_20 n k L cf fa fd fk bf (nI c) o (nI j) = some cf' ∧ RelX (cfB kp fd fa p c) cf' := by
  intro k
  induction k with
  | zero => intro j cf h1 h2; omega
  | succ k ih =>
    intro j cf hj hk h
    rw [f_X0_findConflicts_20]
    by_cases e : j = 8
    · subst e
      rw [if_pos ((le8 (by omega)).mpr (by omega))]
      exact s_findC53 (by omega) hc hL hLL hf w hp (fun r q => anyN (fun x => stB p x && prB x (stB p) r q) 8) n 0 (by omega) (by omega) (fun r hr => bs_cong (h r hr) (fun q _ => by show _ = (_ || false); rw [Bool.or_false]))
    · have hlt : j < 8 := by omega
      rw [if_neg (fun z => e (by have := (le8 (by omega)).mp z; omega)), pn_s]
      by_cases z : stB p j = true
      · obtain ⟨cf1, b1, b2⟩ := s_addC (n := n) (x := j) (by omega) hlt hO h
        rw [if_pos ((bs_get hO hlt).mpr z), b1]
        simp only [Option.bind_some]
        refine ih (j + 1) (by omega) (by omega) (fun r hr => bs_cong (b2 r hr) (fun q _ => ?_))
        show _ = (anyN _ j || (stB p j && prB j (stB p) r q))
        rw [z, Bool.true_and]
      · rw [if_neg (fun t => z ((bs_get hO hlt).mp t))]
        refine ih (j + 1) (by omega) (by omega) (fun r hr => bs_cong (h r hr) (fun q _ => ?_))
        show _ = (anyN _ j || (stB p j && prB j (stB p) r q))
        rw [eq_false_of_ne_true z, Bool.false_and, Bool.or_false]
theorem s_findC (hn : 24 < n) (hc : c ≤ 24) (h0 : 0 < c) (hL : c ≤ L) (hLL : L < 2 ^ 31) (hf : ∀ i, i < c → fk i = nI (kp i)) (w : WP c kp fd fa fb) (hp : RelL c p bf) (cf : Nat → Int32) :
    ∃ cf', f_X0_findConflicts n L cf fa fd fk bf (nI c) = some cf' ∧ RelX (cfB kp fd fa p c) cf' := by
  unfold f_X0_findConflicts
  obtain ⟨g, hg, hg2⟩ := s_fill n (Ln := 8) (by omega) 0 n 0 cf (by omega) (by omega) (fun i hi => by omega)
  have hg' : f_J7_fill_53178 n 8 cf 0 = some g := hg
  rw [hg']
  simp only [Option.bind_some]
  rw [show (0 : Int32) = nI 0 from pn_0, pn_gd (by omega) (by omega), nI_clamp (by omega)]
  exact s_findC20 hn hc hL hLL hf w hp (bs_or (hp.1 0 h0) bs_3) n 0 (by omega) (by omega) (fun r hr => by rw [hg2 r hr]; exact bs_0)
/-- r and q interfere (r ≠ q) -/
def itf (kp : Nat → Nat) (D A : Nat → Int32) (p : Nat → Nat → Bool) (c x y : Nat) : Bool := (stB p x && stB p y) || anyN (fun i => wrK (kp i) && ((decide (D i = nI x) && oB kp D A p i y) || (decide (D i = nI y) && oB kp D A p i x))) c
theorem cf_itf (w : WP c kp fd fa fb) {r q : Nat} (hr : r < 8) (hq : q < 8) (hne : r ≠ q) : cfB kp fd fa p c r q = itf kp fd fa p c q r := by
  unfold cfB itf
  have h1 : anyN (fun x => stB p x && prB x (stB p) r q) 8 = (stB p q && stB p r) := by
    have hb1 : (q == r) = false := by simp; omega
    have hb2 : (r == q) = false := by simp; omega
    cases e : (stB p q && stB p r) with
    | true =>
      rw [Bool.and_eq_true] at e
      refine anyN_t.mpr ⟨r, hr, ?_⟩
      unfold prB
      rw [e.2, e.1, beq_self_eq_true, hb1]; rfl
    | false =>
      cases e2 : anyN (fun x => stB p x && prB x (stB p) r q) 8 with
      | false => rfl
      | true =>
        obtain ⟨x, hx, h⟩ := anyN_t.mp e2
        have h : (stB p x && prB x (stB p) r q) = true := h
        unfold prB at h
        simp only [Bool.and_eq_true, Bool.or_eq_true, beq_iff_eq] at h
        rcases h.2 with g | g
        · rw [← g.1.1] at h
          rw [h.1, g.1.2] at e; cases e
        · rw [← g.1.1] at h
          rw [h.1, g.1.2] at e; cases e
  have h2 : anyN (fun i => wrK (kp i) && prB (nN (fd i)) (oB kp fd fa p i) r q) c = anyN (fun i => wrK (kp i) && ((decide (fd i = nI q) && oB kp fd fa p i r) || (decide (fd i = nI r) && oB kp fd fa p i q))) c := anyN_cong (fun i hi => by
    cases ew : wrK (kp i) with
    | false => rfl
    | true =>
      obtain ⟨rd, a1, a2⟩ := (w i hi).2.1 ew
      rw [a2, nN_nI a1, Bool.true_and, Bool.true_and]
      unfold prB
      have d1 : decide (nI rd = nI q) = (q == rd) := by
        by_cases y : q = rd
        · rw [y]; simp
        · rw [decide_eq_false (fun h => y (nIj h (by omega) (by omega)).symm)]; simp [y]
      have d2 : decide (nI rd = nI r) = (r == rd) := by
        by_cases y : r = rd
        · rw [y]; simp
        · rw [decide_eq_false (fun h => y (nIj h (by omega) (by omega)).symm)]; simp [y]
      rw [d1, d2]
      by_cases y1 : r = rd
      · have y2 : (q == rd) = false := by simp; omega
        rw [y2, y1, beq_self_eq_true]; simp
      · have y3 : (r == rd) = false := by simp [y1]
        rw [y3]; simp)
  rw [h1, h2]
end AC
