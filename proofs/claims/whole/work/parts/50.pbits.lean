/-! PURE SIDE: sets of bits, instructions that fit. -/
/-- x is the set of the registers r < 8 with p r -/
def IsBs (x : Int32) (p : Nat → Bool) : Prop := ∀ i, i < 32 → x.toBitVec.getLsbD i = (decide (i < 8) && p i)
theorem bs_ext {x y : Int32} (h : ∀ i, i < 32 → x.toBitVec.getLsbD i = y.toBitVec.getLsbD i) : x = y := Int32.toBitVec_inj.mp (BitVec.eq_of_getLsbD_eq h)
theorem bs_inj {x y : Int32} {p q : Nat → Bool} (hx : IsBs x p) (hy : IsBs y q) : (x = y) ↔ ∀ r, r < 8 → p r = q r := by
  constructor
  · intro e r hr
    have h1 := hx r (by omega)
    have h2 := hy r (by omega)
    rw [e, h2] at h1
    simpa [hr] using h1.symm
  · intro h
    refine bs_ext (fun i hi => ?_)
    rw [hx i hi, hy i hi]
    by_cases c : i < 8
    · rw [h i c]
    · simp [c]
theorem bs_cong {x : Int32} {p q : Nat → Bool} (hx : IsBs x p) (h : ∀ r, r < 8 → p r = q r) : IsBs x q := fun i hi => by
  rw [hx i hi]
  by_cases c : i < 8
  · rw [h i c]
  · simp [c]
theorem bs_and {x y : Int32} {p q : Nat → Bool} (hx : IsBs x p) (hy : IsBs y q) : IsBs (x &&& y) (fun r => p r && q r) := fun i hi => by
  rw [Int32.toBitVec_and, BitVec.getLsbD_and, hx i hi, hy i hi]
  cases decide (i < 8) <;> simp
theorem bs_or {x y : Int32} {p q : Nat → Bool} (hx : IsBs x p) (hy : IsBs y q) : IsBs (x ||| y) (fun r => p r || q r) := fun i hi => by
  rw [Int32.toBitVec_or, BitVec.getLsbD_or, hx i hi, hy i hi]
  cases decide (i < 8) <;> simp
theorem bs_m1 : ∀ i, i < 32 → (-1 : Int32).toBitVec.getLsbD i = true := by decide +kernel
theorem bs_andn {x y : Int32} {p q : Nat → Bool} (hx : IsBs x p) (hy : IsBs y q) : IsBs (x &&& (y ^^^ (-1 : Int32))) (fun r => p r && !(q r)) := fun i hi => by
  rw [Int32.toBitVec_and, Int32.toBitVec_xor, BitVec.getLsbD_and, BitVec.getLsbD_xor, hx i hi, hy i hi, bs_m1 i hi]
  cases decide (i < 8) <;> simp
theorem bs_0 : IsBs (0 : Int32) (fun _ => false) := by unfold IsBs; decide +kernel
theorem bs_252 : IsBs (252 : Int32) (fun r => decide (2 ≤ r)) := by unfold IsBs; decide +kernel
theorem bs_3 : IsBs (3 : Int32) (fun r => decide (r < 2)) := by unfold IsBs; decide +kernel
theorem bs_one : ∀ r, r < 8 → ∀ i, i < 32 → ((1 : Int32) <<< (nI r &&& 31)).toBitVec.getLsbD i = (decide (i < 8) && (i == r)) := by decide +kernel
theorem bs_1 {r : Nat} (h : r < 8) : IsBs ((1 : Int32) <<< (nI r &&& 31)) (fun i => i == r) := bs_one r h
theorem bs_t0 {y : Int32} : ((y &&& (1 : Int32)) = 1) ↔ y.toBitVec.getLsbD 0 = true := by
  have e : ∀ i, i < 32 → (1 : Int32).toBitVec.getLsbD i = (i == 0) := by decide +kernel
  constructor
  · intro h
    have h2 : (y &&& (1 : Int32)).toBitVec.getLsbD 0 = true := by rw [h]; decide
    rw [Int32.toBitVec_and, BitVec.getLsbD_and, e 0 (by decide)] at h2
    simpa using h2
  · intro h
    refine bs_ext (fun i hi => ?_)
    rw [Int32.toBitVec_and, BitVec.getLsbD_and, e i hi]
    by_cases c : i = 0
    · subst c; rw [h]; rfl
    · simp [c]
theorem bs_z0 {y : Int32} : ((y &&& (1 : Int32)) = 0) ↔ y.toBitVec.getLsbD 0 = false := by
  have e : ∀ i, i < 32 → (1 : Int32).toBitVec.getLsbD i = (i == 0) := by decide +kernel
  constructor
  · intro h
    have h2 : (y &&& (1 : Int32)).toBitVec.getLsbD 0 = false := by rw [h]; decide
    rw [Int32.toBitVec_and, BitVec.getLsbD_and, e 0 (by decide)] at h2
    simpa using h2
  · intro h
    refine bs_ext (fun i hi => ?_)
    rw [Int32.toBitVec_and, BitVec.getLsbD_and, e i hi]
    by_cases c : i = 0
    · subst c; rw [h]; rfl
    · simp [c]
theorem bs_sh {x : Int32} {r : Nat} (h : r < 8) : (x >>> (nI r &&& 31)).toBitVec.getLsbD 0 = x.toBitVec.getLsbD r := by
  have e : ∀ r, r < 8 → ((nI r &&& 31).toBitVec.smod 32).toNat = r := by decide +kernel
  show (x.toBitVec.sshiftRight' ((nI r &&& 31).toBitVec.smod 32)).getLsbD 0 = _
  rw [BitVec.sshiftRight'] 
  rw [e r h, BitVec.getLsbD_sshiftRight]
  have : 0 + r < 32 := by omega
  simp [show r < 32 by omega]
theorem bs_get {x : Int32} {p : Nat → Bool} {r : Nat} (hx : IsBs x p) (h : r < 8) : ((x >>> (nI r &&& 31)) &&& (1 : Int32) = 1) ↔ p r = true := by
  rw [bs_t0, bs_sh h, hx r (by omega)]
  simp [h]
theorem bs_get0 {x : Int32} {p : Nat → Bool} {r : Nat} (hx : IsBs x p) (h : r < 8) : ((x >>> (nI r &&& 31)) &&& (1 : Int32) = 0) ↔ p r = false := by
  rw [bs_z0, bs_sh h, hx r (by omega)]
  simp [h]
theorem pn_m8 (i : Nat) : nI i * (8 : Int32) = nI (i * 8) := (Int32.ofNat_mul i 8).symm
theorem pn_8m (i : Nat) : (8 : Int32) * nI i = nI (8 * i) := (Int32.ofNat_mul 8 i).symm
theorem pn_99 (i : Nat) : (99 : Int32) + nI i = nI (99 + i) := nI_add 99 i
theorem pn_k {a : Nat} (b : Nat) (ha : a < 2 ^ 31) (hb : b < 2 ^ 31) : (nI a = (Int32.ofNat b)) ↔ a = b := nI_eq ha hb
theorem le8 {j : Nat} (h : j < 2 ^ 31) : ((8 : Int32) ≤ nI j) ↔ 8 ≤ j := nI_leI (a := 8) (by decide) h
theorem le24 {j : Nat} (h : j < 2 ^ 31) : ((24 : Int32) ≤ nI j) ↔ 24 ≤ j := nI_leI (a := 24) (by decide) h
theorem le26 {j : Nat} (h : j < 2 ^ 31) : ((26 : Int32) ≤ nI j) ↔ 26 ≤ j := nI_leI (a := 26) (by decide) h
theorem le1000 {j : Nat} (h : j < 2 ^ 31) : ((1000 : Int32) ≤ nI j) ↔ 1000 ≤ j := nI_leI (a := 1000) (by decide) h
theorem le1 {j : Nat} (h : j < 2 ^ 31) : (nI j ≤ (1 : Int32)) ↔ j ≤ 1 := nI_leI (b := 1) h (by decide)
theorem leN {i j : Nat} (hi : i < 2 ^ 31) (h : j < 2 ^ 31) : (nI i ≤ nI j) ↔ i ≤ j := nI_leI hi h
