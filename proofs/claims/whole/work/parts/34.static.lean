/-! the static helpers of the class -/
section STAT
variable {h : Hp} {d : Nat} {X : String → Hp → Prop}
theorem ok_has {F : Int32 → Hp → Prop} {x : Int64} {k : Nat} (hd : 1 ≤ d) (hS : Std h.2.2) (hk : k < 64) (hq : F (bI (hb x k)) h) : OKi d mX11_has [.long x, .int (nI k)] h F X :=
  enX11_has x (nI k) hd hS ⟨fun c => by rw [(hb_shr hk).mp c] at hq; exact hq, fun c => by
    have : hb x k = true := by
      cases hh : hb x k
      · exact absurd ((hb_shr hk).mpr hh) c
      · rfl
    rw [this] at hq; exact hq⟩
theorem ok_only {F : Int64 → Hp → Prop} {x : Int32} (hd : 1 ≤ d) (hS : Std h.2.2) (hq : F ((1 : Int64) <<< (x.toInt64 &&& 63)) h) : OKl d mX11_only [.int x] h F X := enX11_only x hd hS hq
theorem ok_above {F : Int64 → Hp → Prop} {x : Int32} (hd : 1 ≤ d) (hS : Std h.2.2) (hq : F ((-2 : Int64) <<< (x.toInt64 &&& 63)) h) : OKl d mX11_above [.int x] h F X := enX11_above x hd hS hq
theorem ok_isWithin {F : Int32 → Hp → Prop} {v a b : Int64} (hd : 1 ≤ d) (hS : Std h.2.2) (hq : F (bI (decide (a ≤ v ∧ v ≤ b))) h) : OKi d mX11_isWithin [.long v, .long a, .long b] h F X :=
  enX11_isWithin v a b hd hS ⟨fun c => by
    rw [decide_eq_false (fun z => absurd c (Int64.not_lt.mpr z.1))] at hq; exact hq, fun c => ⟨fun c2 => by
    rw [decide_eq_false (fun z => absurd c2 (Int64.not_lt.mpr z.2))] at hq; exact hq, fun c2 => by
    rw [decide_eq_true ⟨Int64.not_lt.mp c, Int64.not_lt.mp c2⟩] at hq; exact hq⟩⟩
def quo (x y : Int32) : Int32 := if y ≤ 0 then 0 else x / y
theorem ok_quotient {F : Int32 → Hp → Prop} {x y : Int32} (hd : 1 ≤ d) (hS : Std h.2.2) (hq : F (quo x y) h) : OKi d mX11_quotient [.int x, .int y] h F X :=
  enX11_quotient x y hd hS ⟨fun c => by rw [quo, if_pos c] at hq; exact hq, fun c => ⟨fun z => c (by rw [z]; decide), by rw [quo, if_neg c] at hq; exact hq⟩⟩
theorem ok_isIn {F : Int32 → Hp → Prop} {x : Int64} {k : Int32} (hd : 2 ≤ d) (hS : Std h.2.2) (hq : F (bI (decide (0 ≤ k ∧ k < 60) && hb x k.toNatClampNeg)) h) : OKi d mX11_isIn [.long x, .int k] h F X :=
  enX11_isIn x k hd hS ⟨fun c => by
    rw [decide_eq_false (fun z => absurd c (Int32.not_lt.mpr z.1))] at hq; exact hq, fun c => ⟨fun c2 => by
    rw [decide_eq_false (fun z => absurd z.2 (Int32.not_lt.mpr c2))] at hq; exact hq, fun c2 => by
    obtain ⟨j, hj, rfl⟩ := nI_nat (Int32.not_lt.mp c)
    have hj2 : j < 60 := (nI_ltI hj (by omega)).mp (Int32.not_le.mp c2)
    rw [decide_eq_true ⟨Int32.not_lt.mp c, Int32.not_le.mp c2⟩, nI_clamp hj] at hq
    refine ok_has (Nat.le_refl _) hS (by omega) ⟨fun c3 => ?_, fun c3 => ?_⟩
    · rw [bI_0.mp c3] at hq; exact hq
    · rw [bI_n0.mp c3] at hq; exact hq⟩⟩
/-- LOG -/
def lg (v : Nat) : Nat := 64 * Nat.log2 v + 64 * (v - 2 ^ Nat.log2 v) / 2 ^ Nat.log2 v
theorem log2_at {v b : Nat} (h1 : 2 ^ b ≤ v) (h2 : v < 2 ^ (b + 1)) : Nat.log2 v = b := by
  have hv : v ≠ 0 := by
    have := Nat.pos_of_ne_zero (n := 2 ^ b) (by simp)
    omega
  apply Nat.le_antisymm
  · exact Nat.le_of_lt_succ ((Nat.log2_lt hv).mpr h2)
  · exact (Nat.le_log2 hv).mpr h1
theorem lp_logOf {F : Int32 → Hp → Prop} {v : Nat} (hv1 : 1 ≤ v) (hv : v < 2 ^ 24) (hS : Std h.2.2) (hq : F (nI (lg v)) h) : ∀ n b : Nat, b + n = Nat.log2 v → E mX11_logOf d 0 0 4 [(0, .int (nI v)), (1, .int (nI b)), (2, .int (nI b))] [] h (Qi F) X := by
  have hne : v ≠ 0 := by omega
  have hlog : Nat.log2 v < 24 := (Nat.log2_lt hne).mpr hv
  intro n
  induction n with
  | zero =>
    intro b e
    have hb : b = Nat.log2 v := by omega
    have h1 : 2 ^ b ≤ v := by rw [hb]; exact Nat.log2_self_le hne
    have h2 : v < 2 ^ (b + 1) := by rw [hb]; exact Nat.lt_log2_self
    have p24 : (2 : Nat) ^ b < 2 ^ 24 := by exact Nat.pow_lt_pow_right (by omega) (by omega)
    have hpos : 0 < 2 ^ b := Nat.pos_of_ne_zero (by simp)
    have e1 : nI v >>> (nI b &&& 31) = nI (v / 2 ^ b) := pk_shrN (by omega) _ b (s_l b (by omega))
    have hq1 : v / 2 ^ b = 1 := by
      have q1 : 1 ≤ v / 2 ^ b := (Nat.one_le_div_iff hpos).mpr h1
      have q2 : v / 2 ^ b < 2 := by
        rw [Nat.div_lt_iff_lt_mul hpos]
        rw [Nat.pow_succ] at h2
        omega
      omega
    refine sgX11_logOf_4 _ _ _ (Nat.zero_le _) hS ⟨fun c => absurd c (nI_ge (a := b) (b := 30) (by omega) (by omega)), fun _ => ⟨fun _ => ?_, fun c => absurd ?_ c⟩⟩
    · have e2 : (1 : Int32) <<< (nI b &&& 31) = nI (2 ^ b) := by
        have := pk_shlN (n := 1) (nI b &&& 31) b (s_l b (by omega)) (by omega)
        rw [Nat.one_mul] at this
        exact this
      have e3 : ((64 : Int32) * (nI v - nI (2 ^ b))) >>> (nI b &&& 31) = nI (64 * (v - 2 ^ b) / 2 ^ b) := by
        rw [pk_sub h1, lit_nI 64, pk_mul]
        exact pk_shrN (by omega) _ b (s_l b (by omega))
      rw [e2, e3, lit_nI 64, pk_mul, nI_add]
      have : lg v = 64 * b + 64 * (v - 2 ^ b) / 2 ^ b := by unfold lg; rw [← hb]
      rw [this] at hq
      exact hq
    · rw [e1, hq1]; decide
  | succ n ih =>
    intro b e
    have hb : b < Nat.log2 v := by omega
    have hpos : 0 < 2 ^ b := Nat.pos_of_ne_zero (by simp)
    have h1 : 2 ^ (b + 1) ≤ v := Nat.le_trans (Nat.pow_le_pow_right (by omega) (by omega)) (Nat.log2_self_le hne)
    have e1 : nI v >>> (nI b &&& 31) = nI (v / 2 ^ b) := pk_shrN (by omega) _ b (s_l b (by omega))
    have hq1 : 2 ≤ v / 2 ^ b := by
      rw [Nat.le_div_iff_mul_le hpos]
      rw [Nat.pow_succ] at h1
      omega
    have hlt : v / 2 ^ b ≤ v := Nat.div_le_self _ _
    refine sgX11_logOf_4 _ _ _ (Nat.zero_le _) hS ⟨fun c => absurd c (nI_ge (a := b) (b := 30) (by omega) (by omega)), fun _ => ⟨fun c => absurd c ?_, fun _ => ?_⟩⟩
    · rw [e1]
      exact nI_ge (a := 1) (by omega) (by omega)
    · rw [nI_1]
      exact ih (b + 1) (by omega)
theorem ok_logOf {F : Int32 → Hp → Prop} {v : Nat} (hd : 1 ≤ d) (hS : Std h.2.2) (hv1 : 1 ≤ v) (hv : v < 2 ^ 24) (hq : F (nI (lg v)) h) : OKi d mX11_logOf [.int (nI v)] h F X :=
  enX11_logOf (nI v) hd hS (lp_logOf hv1 hv hS hq (Nat.log2 v) 0 (by omega))
end STAT
