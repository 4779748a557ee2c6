/-! numbers and sets of bits -/
def bI (b : Bool) : Int32 := if b then 1 else 0
theorem bI_t : bI true = 1 := rfl
theorem bI_f : bI false = 0 := rfl
theorem bI_0 {b : Bool} : bI b = 0 ↔ b = false := by cases b <;> decide
theorem bI_n0 {b : Bool} : ¬ bI b = 0 ↔ b = true := by cases b <;> decide
theorem bI_01 (b : Bool) : bI b = 0 ∨ bI b = 1 := by cases b <;> decide
theorem bI_inj {a b : Bool} : bI a = bI b ↔ a = b := by cases a <;> cases b <;> decide
def hb (x : Int64) (k : Nat) : Bool := x.toBitVec.getLsbD k
theorem hb_or (x y : Int64) (k : Nat) : hb (x ||| y) k = (hb x k || hb y k) := by simp [hb]
theorem hb_and (x y : Int64) (k : Nat) : hb (x &&& y) k = (hb x k && hb y k) := by simp [hb]
theorem hb_m1 : ∀ k, k < 64 → hb (-1) k = true := by decide +kernel
theorem hb_not {x : Int64} {k : Nat} (h : k < 64) : hb (x ^^^ (-1)) k = !hb x k := by
  have h1 := hb_m1 k h
  simp only [hb] at h1 ⊢
  rw [Int64.toBitVec_xor, BitVec.getLsbD_xor, h1]
  cases x.toBitVec.getLsbD k <;> rfl
theorem hb_big {x : Int64} {k : Nat} (h : 64 ≤ k) : hb x k = false := by
  simp only [hb]
  exact BitVec.getLsbD_of_ge _ _ h
theorem hb_0 (k : Nat) : hb 0 k = false := by simp [hb]
theorem hb_ext {x y : Int64} (h : ∀ k, k < 64 → hb x k = hb y k) : x = y := by
  apply Int64.toBitVec_inj.mp
  apply BitVec.eq_of_getLsbD_eq
  intro i hi
  exact h i hi
theorem sh_amt : ∀ k, k < 64 → (((nI k).toInt64 &&& 63).toBitVec.smod 64).toNat = k := by decide +kernel
theorem sh_amu : ∀ k, k < 64 → (((nI k).toInt64.toUInt64 &&& Int64.toUInt64 63)).toNat = k := by decide +kernel
theorem hb_only {j : Nat} (hj : j < 64) (k : Nat) : hb ((1 : Int64) <<< ((nI j).toInt64 &&& 63)) k = decide (k = j) := by
  by_cases hk : k < 64
  · have : ∀ j, j < 64 → ∀ k, k < 64 → hb ((1 : Int64) <<< ((nI j).toInt64 &&& 63)) k = decide (k = j) := by decide +kernel
    exact this j hj k hk
  · rw [hb_big (by omega)]
    simp
    omega
theorem hb_above {j : Nat} (hj : j < 64) (k : Nat) : hb ((-2 : Int64) <<< ((nI j).toInt64 &&& 63)) k = decide (j < k ∧ k < 64) := by
  by_cases hk : k < 64
  · have : ∀ j, j < 64 → ∀ k, k < 64 → hb ((-2 : Int64) <<< ((nI j).toInt64 &&& 63)) k = decide (j < k ∧ k < 64) := by decide +kernel
    exact this j hj k hk
  · rw [hb_big (by omega)]
    simp
    omega
theorem hb_shr {x : Int64} {k : Nat} (hk : k < 64) : (((x.toUInt64 >>> ((nI k).toInt64.toUInt64 &&& Int64.toUInt64 63)).toInt64) &&& 1) = 0 ↔ hb x k = false := ts_bit hk (sh_amu k hk)
/-- the lowest n bits -/
theorem hb_low {n : Nat} (hn : n < 63) (k : Nat) : hb (((1 : Int64) <<< ((nI n).toInt64 &&& 63)) - 1) k = decide (k < n) := by
  by_cases hk : k < 64
  · have : ∀ n, n < 63 → ∀ k, k < 64 → hb (((1 : Int64) <<< ((nI n).toInt64 &&& 63)) - 1) k = decide (k < n) := by decide +kernel
    exact this n hn k hk
  · rw [hb_big (by omega)]
    simp
    omega
theorem lit_nI (n : Nat) : (OfNat.ofNat n : Int32) = nI n := rfl
theorem nI_nat {x : Int32} (h : 0 ≤ x) : ∃ n, n < 2 ^ 31 ∧ x = nI n := nI_of (by rw [Int32.not_lt]; exact h)
theorem nI_ge0 {n : Nat} (h : n < 2 ^ 31) : 0 ≤ nI n := nI_pos' h
theorem nI_inj {a b : Nat} (ha : a < 2 ^ 31) (hb : b < 2 ^ 31) (h : nI a = nI b) : a = b := (nI_eq ha hb).mp h
