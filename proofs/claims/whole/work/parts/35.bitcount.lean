/-! Long.bitCount counts the bits -/
def rp (c : Nat) : Nat → Nat
  | 0 => 0
  | i + 1 => c + 16 * rp c i
theorem rp_lt (c : Nat) (hc : c < 16) : ∀ i, rp c i < 16 ^ i
  | 0 => Nat.one_pos
  | i + 1 => by
    have := rp_lt c hc i
    show c + 16 * rp c i < 16 ^ i * 16
    omega
theorem and_dig {k a b x y : Nat} (ha : a < 2 ^ k) (hb : b < 2 ^ k) : (a + 2 ^ k * x) &&& (b + 2 ^ k * y) = (a &&& b) + 2 ^ k * (x &&& y) := by
  have hab : a &&& b < 2 ^ k := Nat.lt_of_le_of_lt Nat.and_le_left ha
  apply Nat.eq_of_testBit_eq
  intro j
  rw [Nat.testBit_and, Nat.add_comm a, Nat.add_comm b, Nat.add_comm (a &&& b), Nat.testBit_two_pow_mul_add _ ha, Nat.testBit_two_pow_mul_add _ hb, Nat.testBit_two_pow_mul_add _ hab]
  by_cases h : j < k
  · simp [h]
  · simp [h]
theorem and_dig16 {a b x y : Nat} (ha : a < 16) (hb : b < 16) : (a + 16 * x) &&& (b + 16 * y) = (a &&& b) + 16 * (x &&& y) := and_dig (k := 4) ha hb
/-- the bits of a digit -/
def pcn (n : Nat) : Nat := n % 2 + n / 2 % 2 + n / 4 % 2 + n / 8 % 2
theorem dg_split (x : Nat) : x = x % 16 + 16 * (x / 16) := by omega
def bc1 (i x : Nat) : Nat := x - ((x / 2) &&& rp 5 i)
def bc2 (i x : Nat) : Nat := (bc1 i x &&& rp 3 i) + ((bc1 i x / 4) &&& rp 3 i)
def dgs : Nat → Nat → Nat
  | 0, _ => 0
  | i + 1, x => pcn (x % 16) + 16 * dgs i (x / 16)
theorem bc_h5 (n y i : Nat) (hn : n < 16) : ((n + 16 * y) / 2) &&& rp 5 (i + 1) = ((n / 2) &&& 5) + 16 * ((y / 2) &&& rp 5 i) := by
  have e : (n + 16 * y) / 2 = (n / 2 + 8 * (y % 2)) + 16 * (y / 2) := by omega
  rw [e, show rp 5 (i + 1) = 5 + 16 * rp 5 i from rfl, and_dig16 (by omega) (by omega)]
  congr 1
  have h : ∀ n, n < 16 → ∀ b, b < 2 → (n / 2 + 8 * b) &&& 5 = (n / 2) &&& 5 := by decide +kernel
  exact h n hn _ (by omega)
theorem bc1_step (n y i : Nat) (hn : n < 16) : bc1 (i + 1) (n + 16 * y) = (n - ((n / 2) &&& 5)) + 16 * bc1 i y := by
  unfold bc1
  rw [bc_h5 n y i hn]
  have h1 : (n / 2) &&& 5 ≤ n := Nat.le_trans Nat.and_le_left (Nat.div_le_self _ _)
  have h2 : (y / 2) &&& rp 5 i ≤ y := Nat.le_trans Nat.and_le_left (Nat.div_le_self _ _)
  omega
theorem bc2_step (n y i : Nat) (hn : n < 16) : bc2 (i + 1) (n + 16 * y) = pcn n + 16 * bc2 i y := by
  unfold bc2
  rw [bc1_step n y i hn]
  generalize bc1 i y = z
  have hm : n - ((n / 2) &&& 5) < 16 := by omega
  have e : ((n - ((n / 2) &&& 5)) + 16 * z) / 4 = ((n - ((n / 2) &&& 5)) / 4 + 4 * (z % 4)) + 16 * (z / 4) := by omega
  rw [e, show rp 3 (i + 1) = 3 + 16 * rp 3 i from rfl, and_dig16 hm (by omega), and_dig16 (by omega) (by omega)]
  have h : ∀ n, n < 16 → ∀ b, b < 4 → ((n - ((n / 2) &&& 5)) &&& 3) + (((n - ((n / 2) &&& 5)) / 4 + 4 * b) &&& 3) = pcn n := by decide +kernel
  have := h n hn (z % 4) (by omega)
  omega
theorem bc2_dgs : ∀ (i x : Nat), x < 16 ^ i → bc2 i x = dgs i x
  | 0, x, h => by
    have : x = 0 := by simpa using h
    subst this
    decide
  | i + 1, x, h => by
    have hq : x / 16 < 16 ^ i := by
      rw [Nat.pow_succ] at h
      omega
    rw [dg_split x, bc2_step _ _ i (by omega), bc2_dgs i (x / 16) hq]
    show _ = pcn ((x % 16 + 16 * (x / 16)) % 16) + 16 * dgs i ((x % 16 + 16 * (x / 16)) / 16)
    rw [show (x % 16 + 16 * (x / 16)) % 16 = x % 16 by omega, show (x % 16 + 16 * (x / 16)) / 16 = x / 16 by omega]
/-- the sum of the digits' bits -/
def sdg : Nat → Nat → Nat
  | 0, _ => 0
  | i + 1, x => pcn (x % 16) + sdg i (x / 16)
theorem ct_shift (x : Nat) : ∀ i, fb_ct (fun k => x.testBit k) (4 + i) = pcn (x % 16) + fb_ct (fun k => (x / 16).testBit k) i := by
  intro i
  rw [fb_ct_split (fun k => x.testBit k) 4 i]
  congr 1
  · have e : ∀ j, j < 4 → x.testBit j = (x % 16).testBit j := fun j hj => by
      rw [show (16 : Nat) = 2 ^ 4 from rfl, Nat.testBit_mod_two_pow]
      simp [hj]
    rw [fb_ct_cong e]
    have h : ∀ n, n < 16 → fb_ct (fun k => n.testBit k) 4 = pcn n := by decide +kernel
    exact h _ (by omega)
  · apply fb_ct_cong
    intro k _
    rw [show x / 16 = x >>> 4 from (Nat.shiftRight_eq_div_pow x 4).symm, Nat.testBit_shiftRight]
theorem sdg_ct : ∀ (i x : Nat), sdg i x = fb_ct (fun k => x.testBit k) (4 * i)
  | 0, _ => rfl
  | i + 1, x => by
    rw [show 4 * (i + 1) = 4 + 4 * i by omega, ct_shift, ← sdg_ct i (x / 16)]
    rfl
theorem pcn_le (n : Nat) : pcn n ≤ 4 := by unfold pcn; omega
/-- the last steps -/
theorem bc_tail {e0 e1 e2 e3 e4 e5 e6 e7 x3 x4 x5 x6 : Nat} (h : e0 ≤ 8 ∧ e1 ≤ 8 ∧ e2 ≤ 8 ∧ e3 ≤ 8 ∧ e4 ≤ 8 ∧ e5 ≤ 8 ∧ e6 ≤ 8 ∧ e7 ≤ 8)
    (h3 : x3 = e0 + 256 * (e1 + 256 * (e2 + 256 * (e3 + 256 * (e4 + 256 * (e5 + 256 * (e6 + 256 * e7)))))))
    (h4 : x4 = x3 + x3 / 256) (h5 : x5 = x4 + x4 / 65536) (h6 : x6 = x5 + x5 / 4294967296) : x6 % 128 = e0 + e1 + e2 + e3 + e4 + e5 + e6 + e7 := by
  obtain ⟨b0, b1, b2, b3, b4, b5, b6, b7⟩ := h
  have q3 : x3 / 256 = e1 + 256 * (e2 + 256 * (e3 + 256 * (e4 + 256 * (e5 + 256 * (e6 + 256 * e7))))) := by omega
  have y4 : x4 = (e0 + e1) + 256 * ((e1 + e2) + 256 * ((e2 + e3) + 256 * ((e3 + e4) + 256 * ((e4 + e5) + 256 * ((e5 + e6) + 256 * ((e6 + e7) + 256 * e7)))))) := by rw [h4, q3, h3]; omega
  have q4 : x4 / 65536 = (e2 + e3) + 256 * ((e3 + e4) + 256 * ((e4 + e5) + 256 * ((e5 + e6) + 256 * ((e6 + e7) + 256 * e7)))) := by
    have : x4 = ((e0 + e1) + 256 * (e1 + e2)) + 65536 * ((e2 + e3) + 256 * ((e3 + e4) + 256 * ((e4 + e5) + 256 * ((e5 + e6) + 256 * ((e6 + e7) + 256 * e7))))) := by rw [y4]; omega
    generalize (e2 + e3) + 256 * ((e3 + e4) + 256 * ((e4 + e5) + 256 * ((e5 + e6) + 256 * ((e6 + e7) + 256 * e7)))) = z at this ⊢
    clear h3 h4 h5 h6 q3 y4
    omega
  have y5 : x5 = (e0 + e1 + e2 + e3) + 256 * ((e1 + e2 + e3 + e4) + 256 * ((e2 + e3 + e4 + e5) + 256 * ((e3 + e4 + e5 + e6) + 256 * ((e4 + e5 + e6 + e7) + 256 * ((e5 + e6 + e7) + 256 * ((e6 + e7) + 256 * e7)))))) := by rw [h5, q4, y4]; clear h3 h4 h5 h6 q3 q4 y4; omega
  have q5 : x5 / 4294967296 = (e4 + e5 + e6 + e7) + 256 * ((e5 + e6 + e7) + 256 * ((e6 + e7) + 256 * e7)) := by
    have : x5 = ((e0 + e1 + e2 + e3) + 256 * ((e1 + e2 + e3 + e4) + 256 * ((e2 + e3 + e4 + e5) + 256 * (e3 + e4 + e5 + e6)))) + 4294967296 * ((e4 + e5 + e6 + e7) + 256 * ((e5 + e6 + e7) + 256 * ((e6 + e7) + 256 * e7))) := by rw [y5]; clear h3 h4 h5 h6 q3 q4 y4 y5; omega
    generalize (e4 + e5 + e6 + e7) + 256 * ((e5 + e6 + e7) + 256 * ((e6 + e7) + 256 * e7)) = z at this ⊢
    clear h3 h4 h5 h6 q3 y4 q4 y5
    omega
  have y6 : x6 = (e0 + e1 + e2 + e3 + e4 + e5 + e6 + e7) + 256 * ((x5 - (e0 + e1 + e2 + e3)) / 256 + ((e5 + e6 + e7) + 256 * ((e6 + e7) + 256 * e7))) := by
    generalize hz : (e1 + e2 + e3 + e4) + 256 * ((e2 + e3 + e4 + e5) + 256 * ((e3 + e4 + e5 + e6) + 256 * ((e4 + e5 + e6 + e7) + 256 * ((e5 + e6 + e7) + 256 * ((e6 + e7) + 256 * e7))))) = z at y5
    rw [h6, q5]
    clear h3 h4 h5 h6 q3 y4 q4 q5 hz
    omega
  generalize (x5 - (e0 + e1 + e2 + e3)) / 256 + ((e5 + e6 + e7) + 256 * ((e6 + e7) + 256 * e7)) = w at y6
  clear h3 h4 h5 h6 q3 y4 q4 y5 q5
  omega
theorem dgs_lt : ∀ (i x : Nat), dgs i x < 16 ^ i
  | 0, _ => Nat.one_pos
  | i + 1, x => by
    have := dgs_lt i (x / 16)
    have := pcn_le (x % 16)
    show pcn (x % 16) + 16 * dgs i (x / 16) < 16 ^ i * 16
    omega
/-- pairs of digits: the mask 0f0f.. -/
def rq : Nat → Nat
  | 0 => 0
  | i + 1 => 15 + 256 * rq i
def bys : Nat → Nat → Nat
  | 0, _ => 0
  | i + 1, x => (pcn (x % 16) + pcn (x / 16 % 16)) + 256 * bys i (x / 256)
theorem and_dig256 {a b x y : Nat} (ha : a < 256) (hb : b < 256) : (a + 256 * x) &&& (b + 256 * y) = (a &&& b) + 256 * (x &&& y) := and_dig (k := 8) ha hb
theorem bc3 : ∀ (i x : Nat), (dgs (2 * i) x + dgs (2 * i) x / 16) &&& rq i = bys i x
  | 0, _ => by simp [dgs, rq, bys]
  | i + 1, x => by
    have ih := bc3 i (x / 256)
    have e1 : dgs (2 * (i + 1)) x = pcn (x % 16) + 16 * (pcn (x / 16 % 16) + 16 * dgs (2 * i) (x / 256)) := by
      show pcn (x % 16) + 16 * (pcn (x / 16 % 16) + 16 * dgs (2 * i) (x / 16 / 16)) = _
      rw [Nat.div_div_eq_div_mul]
    have p1 := pcn_le (x % 16)
    have p2 := pcn_le (x / 16 % 16)
    show _ &&& (15 + 256 * rq i) = (pcn (x % 16) + pcn (x / 16 % 16)) + 256 * bys i (x / 256)
    rw [e1, ← ih]
    generalize pcn (x % 16) = a at *
    generalize pcn (x / 16 % 16) = b at *
    generalize hz : dgs (2 * i) (x / 256) = z at *
    have e2 : a + 16 * (b + 16 * z) + (a + 16 * (b + 16 * z)) / 16 = ((a + b) + 16 * (b + z % 16)) + 256 * (z + z / 16) := by omega
    have hzz : z % 16 ≤ 4 ∨ True := Or.inr trivial
    have hz4 : z % 16 ≤ 4 := by
      rw [← hz]
      cases i with
      | zero => simp [dgs]
      | succ i =>
        show (pcn (x / 256 % 16) + 16 * dgs (2 * i + 1) (x / 256 / 16)) % 16 ≤ 4
        have := pcn_le (x / 256 % 16)
        omega
    rw [e2, and_dig256 (by omega) (by omega)]
    congr 1
    have h : ∀ c, c < 9 → ∀ d, d < 9 → (c + 16 * d) &&& 15 = c := by decide +kernel
    exact h _ (by omega) _ (by omega)
theorem bys_8 (x : Nat) : ∃ e0 e1 e2 e3 e4 e5 e6 e7 : Nat, (e0 ≤ 8 ∧ e1 ≤ 8 ∧ e2 ≤ 8 ∧ e3 ≤ 8 ∧ e4 ≤ 8 ∧ e5 ≤ 8 ∧ e6 ≤ 8 ∧ e7 ≤ 8) ∧ bys 8 x = e0 + 256 * (e1 + 256 * (e2 + 256 * (e3 + 256 * (e4 + 256 * (e5 + 256 * (e6 + 256 * e7)))))) ∧ sdg 16 x = e0 + e1 + e2 + e3 + e4 + e5 + e6 + e7 := by
  have hp : ∀ n m, pcn n + pcn m ≤ 8 := fun n m => by have := pcn_le n; have := pcn_le m; omega
  refine ⟨_, _, _, _, _, _, _, _, ⟨hp _ _, hp _ _, hp _ _, hp _ _, hp _ _, hp _ _, hp _ _, hp _ _⟩, rfl, ?_⟩
  simp only [sdg, Nat.div_div_eq_div_mul, Nat.reduceMul]
  omega
theorem rp_5 : rp 5 16 = 6148914691236517205 := by decide +kernel
theorem rp_3 : rp 3 16 = 3689348814741910323 := by decide +kernel
theorem rq_8 : rq 8 = 1085102592571150095 := by decide +kernel
def cntb (x : Int64) : Nat := fb_ct (hb x) 64
theorem ok_bitCount {h : Hp} {d : Nat} {X : String → Hp → Prop} {F : Int32 → Hp → Prop} {x : Int64} (hd : 1 ≤ d) (hS : Std h.2.2) (hq : F (nI (cntb x)) h) : OKi d mJ13_bitCount_95d88 [.long x] h F X := by
  obtain ⟨n, hn, rfl⟩ := wb_of x
  have m5 : (6148914691236517205 : Int64) = lN (rp 5 16) := by rw [rp_5]; rfl
  have m3 : (3689348814741910323 : Int64) = lN (rp 3 16) := by rw [rp_3]; rfl
  have mf : (1085102592571150095 : Int64) = lN (rq 8) := by rw [rq_8]; rfl
  refine enJ13_bitCount_95d88 (lN n) hd hS ?_
  intro v1 e1 v2 e2 v3 e3 v4 e4 v5 e5 v6 e6
  have a1 : bc1 16 n ≤ n := Nat.sub_le _ _
  have E1 : v1 = lN (bc1 16 n) := by
    rw [e1, show ((1 : Int32)) = nI 1 from rfl, wb_shr hn (by omega), m5, fb_andL]
    exact lN_sub (Nat.le_trans Nat.and_le_left (Nat.div_le_self _ _))
  have E2 : v2 = lN (dgs 16 n) := by
    rw [e2, E1, show ((2 : Int32)) = nI 2 from rfl, wb_shr (Nat.lt_of_le_of_lt a1 hn) (by omega), m3, fb_andL, fb_andL, lN_add]
    exact congrArg lN (bc2_dgs 16 n (Nat.lt_of_lt_of_le hn (by decide)))
  have b2 := dgs_lt 16 n
  have E3 : v3 = lN (bys 8 n) := by
    rw [e3, E2, show ((4 : Int32)) = nI 4 from rfl, wb_shr (by omega) (by omega), lN_add, mf, fb_andL]
    exact congrArg lN (bc3 8 n)
  obtain ⟨f0, f1, f2, f3, f4, f5, f6, f7, hf, h3, hs⟩ := bys_8 n
  have c3 : bys 8 n < 2 ^ 60 := by
    obtain ⟨g0, g1, g2, g3, g4, g5, g6, g7⟩ := hf
    rw [h3]; omega
  have E4 : v4 = lN (bys 8 n + bys 8 n / 256) := by
    rw [e4, E3, show ((8 : Int32)) = nI 8 from rfl, wb_shr (by omega) (by omega), lN_add]
  have E5 : v5 = lN ((bys 8 n + bys 8 n / 256) + (bys 8 n + bys 8 n / 256) / 65536) := by
    rw [e5, E4, show ((16 : Int32)) = nI 16 from rfl, wb_shr (by omega) (by omega), lN_add]
  have E6 : v6 = lN (((bys 8 n + bys 8 n / 256) + (bys 8 n + bys 8 n / 256) / 65536) + ((bys 8 n + bys 8 n / 256) + (bys 8 n + bys 8 n / 256) / 65536) / 4294967296) := by
    rw [e6, E5, show ((32 : Int32)) = nI 32 from rfl, wb_shr (by omega) (by omega), lN_add]
  have E7 : v6.toInt32 &&& (127 : Int32) = nI (cntb (lN n)) := by
    rw [E6, lN_i]
    have := fa_mask (((bys 8 n + bys 8 n / 256) + (bys 8 n + bys 8 n / 256) / 65536) + ((bys 8 n + bys 8 n / 256) + (bys 8 n + bys 8 n / 256) / 65536) / 4294967296) 7
    refine Eq.trans this (congrArg nI ?_)
    rw [show 2 ^ 7 = 128 from rfl, bc_tail hf h3 rfl rfl rfl, ← hs, sdg_ct]
    unfold cntb
    apply fb_ct_cong
    intro k hk
    simp only [hb]
    rw [lN_bv, BitVec.getLsbD_ofNat]
    simp
    omega
  rw [E7]
  exact hq
