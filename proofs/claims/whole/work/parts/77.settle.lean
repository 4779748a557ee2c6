/-! parts as sets of members -/
def pmk (r : Nat → Nat) (p : Nat) : Nat → Nat
  | 0 => 0
  | i + 1 => pmk r p i + (if r i = p then 2 ^ i else 0)
theorem pmk_lt {r : Nat → Nat} {p : Nat} : ∀ i, pmk r p i < 2 ^ i
  | 0 => Nat.zero_lt_one
  | i + 1 => by
    have := pmk_lt (r := r) (p := p) i
    rw [pmk, Nat.pow_succ]
    split <;> omega
theorem pmk_bit {r : Nat → Nat} {p : Nat} (x : Nat) : ∀ i, (pmk r p i).testBit x = decide (x < i ∧ r x = p)
  | 0 => by rw [pmk, Nat.zero_testBit]; exact (decide_eq_false (by omega)).symm
  | i + 1 => by
    have lt := pmk_lt (r := r) (p := p) i
    have ih := pmk_bit (r := r) (p := p) x i
    rw [pmk]
    by_cases h : r i = p
    · have e2 : 2 ^ i + pmk r p i = 2 ^ i * 1 + pmk r p i := by rw [Nat.mul_one]
      rw [if_pos h, Nat.add_comm, e2, Nat.two_pow_add_eq_or_of_lt lt, Nat.mul_one, Nat.testBit_or, Nat.testBit_two_pow, ih]
      by_cases hx : x = i
      · subst hx
        rw [decide_eq_true (p := x < x + 1 ∧ r x = p) ⟨by omega, h⟩]
        simp
      · rw [← Bool.decide_or]
        exact decide_eq_decide.mpr (by omega)
    · rw [if_neg h, Nat.add_zero, ih]
      refine decide_eq_decide.mpr ⟨fun z => ⟨by omega, z.2⟩, fun z => ⟨?_, z.2⟩⟩
      by_cases hx : x = i
      · rw [hx] at z; exact absurd z.2 h
      · omega
theorem pmk_cg {r q : Nat → Nat} {p : Nat} : ∀ {i : Nat}, (∀ k, k < i → (r k = p ↔ q k = p)) → pmk r p i = pmk q p i
  | 0, _ => rfl
  | i + 1, h => by
    rw [pmk, pmk, pmk_cg fun k hk => h k (by omega)]
    by_cases e : r i = p
    · rw [if_pos e, if_pos ((h i (by omega)).mp e)]
    · rw [if_neg e, if_neg fun z => e ((h i (by omega)).mpr z)]
theorem bt_nI {n : Nat} {k : Nat} (hk : k < 32) : bt (nI n) k = n.testBit k := by
  show (BitVec.ofNat 32 n).getLsbD k = _
  rw [BitVec.getLsbD_ofNat, decide_eq_true hk, Bool.true_and]
def gpt (g : Nat → Nat → Int32) (i : Nat) (m : Nat) : Nat → Int32
  | 0 => 0
  | j + 1 => gpt g i m j + (if m.testBit j = true then g i j else 0)
theorem gpt_cg {g : Nat → Nat → Int32} {i m m' : Nat} : ∀ {j : Nat}, (∀ k, k < j → m.testBit k = m'.testBit k) → gpt g i m j = gpt g i m' j
  | 0, _ => rfl
  | j + 1, h => by rw [gpt, gpt, gpt_cg fun k hk => h k (by omega), h j (Nat.lt_succ_self j)]
theorem gpt_gsm {g : Nat → Nat → Int32} {r : Nat → Nat} {i p : Nat} (hi : r i = p) : ∀ {j : Nat}, j ≤ i → gpt g i (pmk r p i) j = gsm g r i j
  | 0, _ => rfl
  | j + 1, h => by
    rw [gpt, gsm, gpt_gsm hi (by omega), pmk_bit]
    congr 1
    by_cases e : r i = r j
    · rw [if_pos e, if_pos (decide_eq_true ⟨by omega, by omega⟩)]
    · rw [if_neg e, if_neg (fun z => e (by have := of_decide_eq_true z; omega))]
theorem okj_all {bad one : Nat → Nat → Bool} {r : Nat → Nat} {i : Nat} : ∀ {j : Nat}, okj bad one r i j = true ↔ ∀ k, k < j → pok bad one r i k = true
  | 0 => ⟨fun _ k hk => absurd hk (Nat.not_lt_zero _), fun _ => rfl⟩
  | j + 1 => by
    rw [okj, Bool.and_eq_true, okj_all]
    refine ⟨fun z k hk => ?_, fun z => ⟨fun k hk => z k (by omega), z j (by omega)⟩⟩
    by_cases e : k = j
    · rw [e]; exact z.2
    · exact z.1 k (by omega)
def fpN (i : Nat) : Nat := i * (i - 1) / 2
theorem fp_tab : ∀ i, i < 9 → ∀ j, j < 9 → ∀ k, k < j → ((fpN i ≤ fpN j + k ∧ fpN j + k - fpN i < i) ↔ j = i) := by decide +kernel
theorem fp_i32 : ∀ i, i < 9 → nI i * (nI i - (1 : Int32)) / (2 : Int32) = nI (fpN i) := by decide +kernel
theorem fp_lt : ∀ i, i < 9 → ∀ k, k < i → fpN i + k < 36 ∧ fpN i < 36 := by decide +kernel
theorem fp_lt0 : ∀ i, i < 9 → fpN i < 36 := by decide +kernel
/-- pairs that are in one part -/
def JB (r : Nat → Nat) (i : Nat) (x : Int64) : Prop := ∀ j k, j < 9 → k < j → hb x (fpN j + k) = (decide (j < i) && decide (r j = r k))
theorem hb_lN {n k : Nat} (hk : k < 64) : hb (lN n) k = n.testBit k := by
  show (BitVec.ofNat 64 n).getLsbD k = _
  rw [BitVec.getLsbD_ofNat, decide_eq_true hk, Bool.true_and]
theorem nI_64 {n : Nat} (h : n < 2 ^ 31) : (nI n).toInt64 = lN n := by
  apply Int64.toInt_inj.mp
  rw [Int32.toInt_toInt64, nI_toInt h]
  exact (lN_toInt (by omega)).symm
theorem JB.put {r : Nat → Nat} {i p : Nat} {x : Int64} (hi : i < 9) (J : JB r i x) : JB (upr r i p) (i + 1) (x ||| ((nI (pmk r p i)).toInt64 <<< ((nI (fpN i)).toInt64 &&& 63))) := fun j k hj hk => by
  have hl := fp_lt j hj k hk
  have hf := fp_lt0 i hi
  have pl := pmk_lt (r := r) (p := p) i
  have p9 : 2 ^ i ≤ 2 ^ 9 := Nat.pow_le_pow_right (by decide) (by omega)
  rw [hb_or, J j k hj hk, nI_64 (by omega), wb_shl _ (by omega), hb_lN (by omega), ← Nat.shiftLeft_eq, Nat.testBit_shiftLeft, pmk_bit]
  have t := fp_tab i hi j hj k hk
  by_cases e : j = i
  · subst e
    have e1 : fpN j + k - fpN j = k := by omega
    rw [decide_eq_false (p := j < j) (by omega), Bool.false_and, Bool.false_or, decide_eq_true (p := fpN j + k ≥ fpN j) (by omega), Bool.true_and, e1, decide_eq_true (p := j < j + 1) (by omega), Bool.true_and, upr_k, upr_j (by omega)]
    exact decide_eq_decide.mpr ⟨fun z => z.2.symm, fun z => ⟨hk, z.symm⟩⟩
  · have n1 : ¬ (fpN i ≤ fpN j + k ∧ fpN j + k - fpN i < i) := fun z => e (t.mp z)
    have n2 : (decide (fpN j + k ≥ fpN i) && decide (fpN j + k - fpN i < i ∧ r (fpN j + k - fpN i) = p)) = false := by
      rw [← Bool.decide_and]
      exact decide_eq_false fun z => n1 ⟨z.1, z.2.1⟩
    rw [n2, Bool.or_false]
    by_cases hji : j < i
    · rw [decide_eq_true hji, decide_eq_true (p := j < i + 1) (by omega), upr_j (by omega), upr_j (by omega)]
    · rw [decide_eq_false hji, decide_eq_false (p := j < i + 1) (by omega)]; rfl
