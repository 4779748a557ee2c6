/-! the reference's own predicates -/
def aC : List Nat := [92, 93, 94, 95, 96, 97, 98, 99, 100, 101, 102, 103, 104, 105, 106, 107, 108, 109, 110, 111]
def fC : List Nat := [1, 2, 3, 4, 5, 6, 7, 8, 29, 30]
def core (c k : Nat) : Bool := (c == 91 && fC.contains k) || aC.contains c
def MC (σ h : Hp) : Prop := ∀ c k, core c k = true → h.1 c k = σ.1 c k
theorem MC.rf {σ : Hp} : MC σ σ := fun _ _ _ => rfl
theorem MC.i {σ h : Hp} (m : MC σ h) (c k : Nat) (q : core c k = true := by rfl) : h.1 c k = σ.1 c k := m c k q
theorem core_no {L : List Nat} {fs : List (Nat × Nat)} (hL : ∀ c ∈ L, aC.contains c = false ∧ c ≠ 91) (hf : ∀ p ∈ fs, core p.1 p.2 = false) {c k : Nat} (q : core c k = true) : inW L fs c k = false := by
  simp only [inW, Bool.or_eq_false_iff, List.contains_eq_mem, decide_eq_false_iff_not]
  refine ⟨fun z => ?_, fun z => ?_⟩
  · obtain ⟨z1, z2⟩ := hL c z
    simp only [core, z1, Bool.or_false, Bool.and_eq_true, beq_iff_eq] at q
    exact z2 q.1
  · have := hf (c, k) z
    simp only at this
    rw [this] at q; cases q
theorem MC.fr {σ h h' : Hp} {L : List Nat} {fs : List (Nat × Nat)} (m : MC σ h) (f : Fr L fs h h') (hL : ∀ c ∈ L, aC.contains c = false ∧ c ≠ 91 := by decide) (hf : ∀ p ∈ fs, core p.1 p.2 = false := by decide) : MC σ h' := fun c k q => (f.i c k (core_no hL hf q)).trans (m c k q)
/-- below n -/
def isN (x : Int32) (n : Nat) : Bool := decide (0 ≤ x) && decide (x < nI n)
theorem isN_t {x : Int32} {n : Nat} (hn : n < 2 ^ 31) (q : isN x n = true) : ∃ j, j < n ∧ x = nI j := by
  simp only [isN, Bool.and_eq_true, decide_eq_true_eq] at q
  obtain ⟨j, hj, rfl⟩ := nI_nat q.1
  exact ⟨j, (nI_ltI hj hn).mp q.2, rfl⟩
theorem isN_nI {j n : Nat} (hn : n < 2 ^ 31) (hj : j < n) : isN (nI j) n = true := by
  simp only [isN, Bool.and_eq_true, decide_eq_true_eq]
  exact ⟨nI_ge0 (by omega), nI_lt hj hn⟩
theorem wi_dec (a x b : Int32) : decide (a.toInt64 ≤ x.toInt64 ∧ x.toInt64 ≤ b.toInt64) = (decide (a ≤ x) && decide (x ≤ b)) := by
  rw [Bool.decide_and, decide_eq_decide.mpr (fa_wide_le a x), decide_eq_decide.mpr (fa_wide_le x b)]
theorem nI0_m1 : nI 0 - 1 < (0 : Int32) := by decide +kernel
theorem nI_m1 (m : Nat) : nI (m + 1) - 1 = nI m := by rw [← nI_1]; exact Int32.add_sub_cancel _ _
theorem isN_m1 {j m : Nat} (hj : j < 2 ^ 31) (hn : m + 1 < 2 ^ 31) : nI j ≤ nI (m + 1) - 1 ↔ nI j < nI (m + 1) := by
  rw [nI_m1, nI_leI hj (by omega), nI_ltI hj hn]
  exact Nat.lt_succ_iff.symm
theorem isN_m0 {j : Nat} (hj : j < 2 ^ 31) : nI j ≤ nI 0 - 1 ↔ nI j < nI 0 := by
  refine ⟨fun z => absurd z (Int32.not_le.mpr (fa_trans nI0_m1 (nI_ge0 hj))), fun z => absurd z ?_⟩
  exact nI_pos hj
theorem isN_m {x : Int32} {n : Nat} (hn : n < 2 ^ 31) : (decide (0 ≤ x) && decide (x ≤ nI n - 1)) = isN x n := by
  unfold isN
  by_cases h1 : 0 ≤ x
  · obtain ⟨j, hj, e⟩ := nI_nat h1
    subst e
    congr 1
    apply decide_eq_decide.mpr
    by_cases hn0 : n = 0
    · subst hn0
      exact isN_m0 hj
    · obtain ⟨m, e⟩ : ∃ m, n = m + 1 := ⟨n - 1, by omega⟩
      subst e
      exact isN_m1 hj hn
  · rw [decide_eq_false h1, Bool.false_and, Bool.false_and]
theorem isN_w {x : Int32} {n : Nat} (hn : n < 2 ^ 31) : decide ((0 : Int64) ≤ x.toInt64 ∧ x.toInt64 ≤ (nI n - 1).toInt64) = isN x n := by
  rw [← isN_m hn]
  exact wi_dec 0 x (nI n - 1)
section MODEL
variable {σ h : Hp} {d : Nat} {X : String → Hp → Prop} {F : Int32 → Hp → Prop}
theorem ok_within {v a b : Int64} (hd : 1 ≤ d) (hS : Std h.2.2) (hq : F (bI (decide (a ≤ v ∧ v ≤ b))) h) : OKi d mX12_within [.long v, .long a, .long b] h F X :=
  enX12_within v a b hd hS ⟨fun c => by
    rw [decide_eq_false (fun z => absurd c (Int64.not_lt.mpr z.1))] at hq; exact hq, fun c => ⟨fun c2 => by
    rw [decide_eq_false (fun z => absurd c2 (Int64.not_lt.mpr z.2))] at hq; exact hq, fun c2 => by
    rw [decide_eq_true ⟨Int64.not_lt.mp c, Int64.not_lt.mp c2⟩] at hq; exact hq⟩⟩
theorem ok_isPlaceM {x : Int32} (hd : 2 ≤ d) (hS : Std h.2.2) (V : VS σ) (m : MC σ h) (hq : F (bI (isN x (nP σ))) h) : OKi d mX12_isPlace [.ref 91, .int x] h F X := by
  have := V.p.2
  refine enX12_isPlace x hd hS ?_
  rw [m.i 91 2, V.p.1]
  exact ok_within (by omega) hS ⟨bI_01 _, by rw [isN_w (by omega)]; exact hq⟩
theorem ok_isMarkM {x : Int32} (hd : 2 ≤ d) (hS : Std h.2.2) (V : VS σ) (m : MC σ h) (hq : F (bI (isN x (nM σ))) h) : OKi d mX12_isMark [.ref 91, .int x] h F X := by
  have := V.m.2
  refine enX12_isMark x hd hS ?_
  rw [m.i 91 3, V.m.1]
  exact ok_within (by omega) hS ⟨bI_01 _, by rw [isN_w (by omega)]; exact hq⟩
theorem ok_isHandM {x : Int32} (hd : 2 ≤ d) (hS : Std h.2.2) (V : VS σ) (m : MC σ h) (hq : F (bI (isN x (nH σ))) h) : OKi d mX12_isHand [.ref 91, .int x] h F X := by
  have := V.h.2
  refine enX12_isHand x hd hS ?_
  rw [m.i 91 4, V.h.1]
  exact ok_within (by omega) hS ⟨bI_01 _, by rw [isN_w (by omega)]; exact hq⟩
theorem ok_isOfficerM {x : Int32} (hd : 2 ≤ d) (hS : Std h.2.2) (V : VS σ) (m : MC σ h) (hq : F (bI (isN x (nO σ))) h) : OKi d mX12_isOfficer [.ref 91, .int x] h F X := by
  have := V.o.2
  refine enX12_isOfficer x hd hS ?_
  rw [m.i 91 5, V.o.1]
  exact ok_within (by omega) hS ⟨bI_01 _, by rw [isN_w (by omega)]; exact hq⟩
/-- a deed that is -/
def isD (σ : Hp) (x : Int32) : Bool := isN x (nD σ) && al σ x.toNatClampNeg
theorem isD_t {x : Int32} (V : VS σ) (q : isD σ x = true) : ∃ a, al σ a = true ∧ x = nI a ∧ a < nD σ := by
  have := V.d.2
  simp only [isD, Bool.and_eq_true] at q
  obtain ⟨j, hj, rfl⟩ := isN_t (by omega) q.1
  have h2 := q.2
  rw [nI_clamp (by omega)] at h2
  exact ⟨j, h2, rfl, hj⟩
theorem isD_nI {a : Nat} (V : VS σ) : isD σ (nI a) = true ∨ (¬ a < 2 ^ 31) ∨ al σ a = false := by
  have := V.d.2
  by_cases h : a < 2 ^ 31
  · cases hal : al σ a
    · exact Or.inr (Or.inr rfl)
    · left
      simp only [isD, nI_clamp h, hal, Bool.and_true]
      exact isN_nI (by omega) (al_lt hal)
  · exact Or.inr (Or.inl h)
theorem ok_isDeedM {x : Int32} (hd : 2 ≤ d) (hS : Std h.2.2) (V : VS σ) (m : MC σ h) (hq : F (bI (isD σ x)) h) : OKi d mX12_isDeed [.ref 91, .int x] h F X := by
  have hD := V.d.2
  refine enX12_isDeed x hd hS ?_
  rw [m.i 91 6, V.d.1]
  refine ok_within (by omega) hS ?_
  rw [isN_w (by omega)]
  refine ⟨fun q => ?_, fun q => ?_⟩
  · have := bI_0.mp q
    rw [isD, this] at hq
    exact hq
  · have h1 := bI_n0.mp q
    obtain ⟨j, hj, rfl⟩ := isN_t (by omega) h1
    rw [isD, h1, nI_clamp (by omega), al_gone hj, Bool.true_and] at hq
    refine ⟨vin (by omega), ?_⟩
    rw [nI_clamp (by omega), m.i 105]
    exact ⟨fun q2 => by rw [decide_eq_true q2] at hq; exact hq, fun q2 => by rw [decide_eq_false q2] at hq; exact hq⟩
theorem ok_standsM {a : Nat} (hd : 3 ≤ d) (hS : Std h.2.2) (V : VS σ) (m : MC σ h) (ha : a < nD σ) (hq : F (bI (stn σ a)) h) : OKi d mX12_stands [.ref 91, .int (nI a)] h F X := by
  have hD := V.d.2
  refine enX12_stands (nI a) hd hS (ok_isDeedM (by omega) hS V m ?_)
  have e : isD σ (nI a) = al σ a := by rw [isD, nI_clamp (by omega), isN_nI (by omega) ha, Bool.true_and]
  rw [e]
  refine ⟨fun q => ?_, fun q => ⟨vin (by omega), ?_⟩⟩
  · rw [stn, bI_0.mp q] at hq; exact hq
  · rw [stn, bI_n0.mp q, Bool.true_and, dbt, Bool.not_not] at hq
    rw [nI_clamp (by omega), m.i 104]
    exact ⟨fun q2 => by rw [decide_eq_true q2] at hq; exact hq, fun q2 => by rw [decide_eq_false q2] at hq; exact hq⟩
theorem ok_countsM {a : Nat} (hd : 4 ≤ d) (hS : Std h.2.2) (V : VS σ) (m : MC σ h) (ha : a < nD σ) (hq : F (bI (ctd σ a)) h) : OKi d mX12_counts [.ref 91, .int (nI a)] h F X := by
  have hD := V.d.2
  refine enX12_counts (nI a) hd hS (ok_standsM (by omega) hS V m ha ⟨fun q => ?_, fun q => ⟨vin (by omega), ok_within (by omega) hS ?_⟩⟩)
  · rw [ctd, bI_0.mp q] at hq; exact hq
  · rw [ctd, bI_n0.mp q, Bool.true_and] at hq
    rw [nI_clamp (by omega), m.i 99, m.i 91 29, m.i 91 30, wi_dec]
    exact ⟨fun q2 => by rw [bI_0.mp q2] at hq; exact hq, fun q2 => by rw [bI_n0.mp q2] at hq; exact hq⟩
theorem ok_isSolvedM {a : Nat} (hd : 1 ≤ d) (hS : Std h.2.2) (V : VS σ) (m : MC σ h) (ha : a < 60) (hq : F (bI (sol σ a)) h) : OKi d mX12_isSolved [.ref 91, .int (nI a)] h F X := by
  refine enX12_isSolved (nI a) hd hS ⟨vin ha, ?_⟩
  rw [nI_clamp (by omega), m.i 102]
  exact ⟨fun q => by rw [sol, decide_eq_true q] at hq; exact hq, fun q => by rw [sol, decide_eq_false q] at hq; exact hq⟩
theorem ok_isOfM {a : Nat} {x : Int32} (hd : 1 ≤ d) (hS : Std h.2.2) (m : MC σ h) (ha : a < 60) (hq : F (bI (isof σ a x)) h) : OKi d mX12_isOf [.ref 91, .int (nI a), .int x] h F X := by
  refine enX12_isOf (nI a) x hd hS ⟨vin ha, ?_⟩
  rw [nI_clamp (by omega), m.i 102, m.i 103]
  exact ⟨fun q => by rw [isof, decide_eq_true q] at hq; exact hq, fun q => ⟨vin ha, fun q2 => by rw [isof, decide_eq_true q2, Bool.or_true] at hq; exact hq, fun q2 => by rw [isof, decide_eq_false q, decide_eq_false q2] at hq; exact hq⟩⟩
theorem ok_areOneM {a b : Nat} (hd : 2 ≤ d) (hS : Std h.2.2) (V : VS σ) (m : MC σ h) (ha : a < 60) (hb : b < 60) (hq : F (bI (one σ a b)) h) : OKi d mX12_areOne [.ref 91, .int (nI a), .int (nI b)] h F X := by
  refine enX12_areOne (nI a) (nI b) hd hS (ok_isSolvedM (by omega) hS V m ha ⟨fun q => ?_, fun q => ok_isSolvedM (by omega) hS V m hb ⟨fun q2 => ?_, fun q2 => ⟨vin ha, ?_⟩⟩⟩)
  · rw [one, bI_0.mp q] at hq; exact hq
  · rw [one, bI_0.mp q2, Bool.and_false] at hq; exact hq
  · rw [one, bI_n0.mp q, bI_n0.mp q2, Bool.true_and, Bool.true_and] at hq
    rw [nI_clamp (by omega), m.i 102]
    refine ok_isOfM (by omega) hS m hb ⟨fun q3 => ⟨vin ha, ?_⟩, fun q3 => ?_⟩
    · rw [m.i 103]
      refine ok_isOfM (by omega) hS m hb ⟨fun q4 => ?_, fun q4 => ?_⟩
      · rw [bI_0.mp q3, bI_0.mp q4] at hq; exact hq
      · rw [bI_n0.mp q4, Bool.or_true] at hq; exact hq
    · rw [bI_n0.mp q3, Bool.true_or] at hq; exact hq
theorem ok_distanceM {a b : Nat} (hd : 2 ≤ d) (hS : Std h.2.2) (m : MC σ h) (ha : a < 30) (hb : b < 30) (hq : F (dst σ a b) h) : OKi d mX12_distance [.ref 91, .int (nI a), .int (nI b)] h F X := by
  refine enX12_distance (nI a) (nI b) hd hS ⟨vin ha, vin hb, vin ha, vin hb, ?_⟩
  rw [nI_clamp (by omega), nI_clamp (by omega), m.i 92, m.i 92, m.i 93, m.i 93]
  exact hq
theorem ok_areBarredM {a b : Nat} (hd : 3 ≤ d) (hS : Std h.2.2) (V : VS σ) (m : MC σ h) (ha : a < nD σ) (hb : b < nD σ) (hq : F (bI (brd σ a b)) h) : OKi d mX12_areBarred [.ref 91, .int (nI a), .int (nI b)] h F X := by
  have hD := V.d.2
  have hP := V.p.2
  refine enX12_areBarred (nI a) (nI b) hd hS (ok_areOneM (by omega) hS V m (by omega) (by omega) ⟨fun q => ⟨vin (by omega), vin (by omega), vin (by omega), vin (by omega), vin (by omega), vin (by omega), ?_⟩, fun q => ?_⟩)
  · have h1 := bI_0.mp q
    rw [nI_clamp (by omega), nI_clamp (by omega), m.i 98, m.i 98, (V.de ha).1.1, (V.de hb).1.1]
    have hpa := (V.de ha).1.2
    have hpb := (V.de hb).1.2
    refine ok_distanceM (by omega) hS m (by omega) (by omega) ?_
    rw [m.i 99, m.i 99, m.i 100, m.i 100, Int32.mul_comm]
    have t1 : F 1 h → E mX12_areBarred 2 0 0 101 [] [] h (Qi F) X := fun z => sgX12_areBarred_101 (Nat.le_refl _) hS z
    have t0 : F 0 h → E mX12_areBarred 2 0 0 105 [] [] h (Qi F) X := fun z => sgX12_areBarred_105 (Nat.le_refl _) hS z
    refine ⟨fun q2 => sgX12_areBarred_66 _ _ _ (Nat.le_refl _) hS ⟨fun _ => ?_, fun z => absurd rfl z⟩, fun q2 => sgX12_areBarred_66 _ _ _ (Nat.le_refl _) hS ⟨fun z => absurd z (by decide), fun _ => t1 ?_⟩⟩
    · have ha1 : apt σ a b = false := by
        rw [apt]
        exact decide_eq_false (Int32.not_lt.mpr q2)
      have e : (60 : Int32) * nI a + nI b = nI (60 * a + b) := by rw [lit_nI 60, pk_mul, nI_add]
      rw [e]
      refine ⟨vin (by omega), ?_⟩
      rw [nI_clamp (by omega), m.i 106]
      rw [brd, h1, ha1] at hq
      refine ⟨fun q3 => ?_, fun q3 => t1 ?_⟩
      · have hb0 : bar σ a b = false := by rw [bar, decide_eq_true q3]; rfl
        rw [hb0] at hq
        refine ok_isSolvedM (by omega) hS V m (by omega) ⟨fun q4 => t0 ?_, fun q4 => ok_isSolvedM (by omega) hS V m (by omega) ⟨fun q5 => t0 ?_, fun q5 => t1 ?_⟩⟩
        · rw [bI_0.mp q4] at hq; exact hq
        · rw [bI_0.mp q5, Bool.and_false] at hq; exact hq
        · rw [bI_n0.mp q4, bI_n0.mp q5] at hq; exact hq
      · have hb1 : bar σ a b = true := by rw [bar, decide_eq_false q3]; rfl
        rw [hb1] at hq; exact hq
    · have ha1 : apt σ a b = true := by
        rw [apt]
        exact decide_eq_true (Int32.not_le.mp q2)
      rw [brd, h1, ha1] at hq; exact hq
  · rw [brd, bI_n0.mp q] at hq; exact hq
end MODEL
