/-! surely one, surely two, could: class and reference -/
theorem fb_swap {P : Nat → Nat → Bool} {m : Nat} : ∀ n, fb_sm (fun a => fb_ct (P a) m) n = fb_sm (fun b => fb_ct (fun a => P a b) n) m
  | 0 => by
    have : fb_sm (fun b => fb_ct (fun a => P a b) 0) m = fb_sm (fun _ => 0) m := rfl
    rw [this, fb_sm_const, Nat.mul_zero]; rfl
  | n + 1 => by
    have e : fb_ct (P n) m = fb_sm (fun b => if P n b then 1 else 0) m := by
      clear fb_swap
      induction m with
      | zero => rfl
      | succ m ih => rw [fb_ct_succ, fb_sm_succ, ih]
    rw [fb_sm_succ, fb_swap n, e, ← fb_sm_add]
    exact fb_sm_cong fun b _ => (fb_ct_succ (fun a => P a b) n).symm
section SURETY
variable {h : Hp} {d n : Nat} {X : String → Hp → Prop} {bad one : Nat → Nat → Bool} {g : Nat → Nat → Int32} {mb : Nat → Nat} {least : Int32} {s : SN}
/-- no more near rows than rows, and none together more often -/
def SNo (s : SN) (b : Nat) : Prop := s.1 ≤ b ∧ ∀ i k, s.2 i k ≤ s.1
theorem near_le : ∀ (f i : Nat) (r : Nat → Nat) (u : Nat) (s : SN) (b : Nat), i + f ≤ 9 → u ≤ i → SNo s b → SNo (enumN (lfo bad one n (actN g n least)) f i r u s) (b + 9 ^ f) := by
  intro f
  induction f with
  | zero =>
    intro i r u s b _ _ hs
    rw [enumN, lfo]
    split
    · rw [actN]
      split
      · exact ⟨Nat.le_trans hs.1 (Nat.le_add_right _ _), hs.2⟩
      · refine ⟨by show s.1 + 1 ≤ b + 9 ^ 0; have := hs.1; omega, fun i k => ?_⟩
        show s.2 i k + (if r i = r k then 1 else 0) ≤ s.1 + 1
        have := hs.2 i k
        split <;> omega
    · exact ⟨Nat.le_trans hs.1 (Nat.le_add_right _ _), hs.2⟩
  | succ f ih =>
    intro i r u s b hif hui hs
    rw [enumN]
    have go : ∀ k, k ≤ u + 1 → SNo (itr (fun p s => enumN (lfo bad one n (actN g n least)) f (i + 1) (upr r i p) (max u (p + 1)) s) k s) (b + k * 9 ^ f) := by
      intro k
      induction k with
      | zero => intro _; rw [itr, Nat.zero_mul]; exact hs
      | succ k ih2 =>
        intro hk
        rw [itr]
        have := ih (i + 1) (upr r i k) (max u (k + 1)) _ _ (by omega) (by omega) (ih2 (by omega))
        rw [Nat.succ_mul, ← Nat.add_assoc]
        exact this
    obtain ⟨h1, h2⟩ := go (u + 1) (Nat.le_refl _)
    refine ⟨Nat.le_trans h1 ?_, h2⟩
    rw [Nat.pow_succ, Nat.mul_comm (9 ^ f) 9]
    have : (u + 1) * 9 ^ f ≤ 9 * 9 ^ f := Nat.mul_le_mul_right _ (by omega)
    omega
theorem near0_le (hn : n ≤ 9) : SNo (near0 bad one g n least) (9 ^ 9) := by
  have := near_le (bad := bad) (one := one) (g := g) (least := least) (n := n) n 0 (fun _ => 0) 0 (0, fun _ _ => 0) 0 (by omega) (Nat.le_refl _) ⟨Nat.le_refl _, fun _ _ => Nat.le_refl _⟩
  refine ⟨Nat.le_trans this.1 ?_, this.2⟩
  rw [Nat.zero_add]
  exact Nat.pow_le_pow_right (by decide) hn
def sur (s : SN) (i k : Nat) : Int32 := if s.2 i k = s.1 then 1 else if s.2 i k = 0 then 2 else 0
theorem sur_0 {i k : Nat} : sur s i k = 0 ↔ ¬ s.2 i k = s.1 ∧ ¬ s.2 i k = 0 := by
  rw [sur]
  by_cases h1 : s.2 i k = s.1
  · rw [if_pos h1]; exact ⟨fun z => absurd z (by decide), fun z => absurd h1 z.1⟩
  · rw [if_neg h1]
    by_cases h2 : s.2 i k = 0
    · rw [if_pos h2]; exact ⟨fun z => absurd z (by decide), fun z => absurd h2 z.2⟩
    · rw [if_neg h2]; exact ⟨fun _ => ⟨h1, h2⟩, fun _ => rfl⟩
theorem ok_surety {F : Int32 → Hp → Prop} {i k : Nat} (hn : n ≤ 9) (hd : 2 ≤ d) (hS : Std h.2.2) (rs : RSN n least s h) (hi : i < n) (hk : k < n) (hne : i ≠ k) (hq : F (sur s (max i k) (min i k)) h) : OKi d mX5_surety [.ref 45, .int (nI i), .int (nI k)] h F X := by
  have hl := fp_lt (max i k) (by omega) (min i k) (by omega)
  obtain ⟨s1, s2, s3⟩ := rs.2.2 (max i k) (min i k) (by omega) (by omega)
  refine enX5_surety _ _ hd hS (enX5_firstPair _ (Nat.le_refl _) hS ?_)
  rw [nI_max (by omega) (by omega), nI_min (by omega) (by omega), fp_i32 _ (by omega), nI_add]
  refine ok_has (by omega) hS (by omega) ⟨fun z => ?_, fun z => ok_has (by omega) hS (by omega) ⟨fun z2 => ?_, fun z2 => ?_⟩⟩
  · have z1 := bI_0.mp z
    rw [s3] at z1
    have := of_decide_eq_false z1
    rw [sur, if_pos (by omega)] at hq
    exact hq
  · have z1 := bI_n0.mp z
    have z3 := bI_0.mp z2
    rw [s3] at z1
    rw [s2] at z3
    have := of_decide_eq_true z1
    have := of_decide_eq_false z3
    rw [sur, if_neg (by omega), if_pos (by omega)] at hq
    exact hq
  · have z1 := bI_n0.mp z
    have z3 := bI_n0.mp z2
    rw [s3] at z1
    rw [s2] at z3
    have := of_decide_eq_true z1
    have := of_decide_eq_true z3
    rw [sur, if_neg (by omega), if_neg (by omega)] at hq
    exact hq
theorem ok_sureOf {F : Int32 → Hp → Prop} {i k : Nat} (hn : n ≤ 9) (hd : 2 ≤ d) (hS : Std h.2.2) (rs : RNM n s h) (sb : SNo s (9 ^ 9)) (hi : i < n) (hk : k < n) (hne : i ≠ k) (hq : F (sur s (max i k) (min i k)) h) : OKi d mX12_sureOf [.ref 91, .int (nI i), .int (nI k)] h F X := by
  have p9 : (9 : Nat) ^ 9 = 387420489 := by decide
  have b1 := sb.1
  have b2 := sb.2 (max i k) (min i k)
  refine enX12_sureOf _ _ hd hS ?_
  have eg : (9 : Int32) * nI (max i k) + nI (min i k) = nI (9 * max i k + min i k) := by rw [lit_nI 9, pk_mul, nI_add]
  rw [nI_max (by omega) (by omega), nI_min (by omega) (by omega), eg, nI_clamp (by omega), rs.2 _ _ (by omega) (by omega), rs.1, nI_eq (by omega) (by omega)]
  have e0 : nI (s.2 (max i k) (min i k)) = 0 ↔ s.2 (max i k) (min i k) = 0 := nI_eq (b := 0) (by omega) (by omega)
  rw [e0]
  refine ⟨vin (by omega), fun z => ?_, fun z => ⟨fun z2 => ?_, fun z2 => ?_⟩⟩
  · rw [sur, if_pos z] at hq; exact hq
  · rw [sur, if_neg z, if_pos z2] at hq; exact hq
  · rw [sur, if_neg z, if_neg z2] at hq; exact hq
/-- pairs that could -/
def cou (s : SN) (n : Nat) : Nat := fb_sm (fun i => fb_ct (fun k => decide (k < i) && decide (sur s i k = 0)) n) n
def co1 (s : SN) (n i : Nat) : Nat := fb_sm (fun a => fb_ct (fun b => decide (a < b) && decide (sur s b a = 0)) n) i
theorem co1_end : co1 s n n = cou s n := by rw [co1, cou, fb_swap]
theorem lp_could16 {F : Int32 → Hp → Prop} {i : Nat} (hn : n ≤ 9) (hd : 2 ≤ d) (hS : Std h.2.2) (h1 : h.1 45 1 = nI n) (rs : RSN n least s h) (hi : i < n)
    (nx : E mX5_pairsThatCould d 0 0 4 [(0, .ref 45), (1, .int (nI (co1 s n (i + 1)))), (2, .int (nI (i + 1)))] [] h (Qi F) X) :
    ∀ m j, j + m = n → i < j → E mX5_pairsThatCould d 0 0 16 [(0, .ref 45), (1, .int (nI (co1 s n i + fb_ct (fun b => decide (i < b) && decide (sur s b i = 0)) j))), (2, .int (nI i)), (3, .int (nI j))] [] h (Qi F) X := by
  intro m
  induction m with
  | zero =>
    intro j e hij
    have : j = n := by omega
    subst this
    refine sgX5_pairsThatCould_16 _ _ _ hd hS ⟨fun _ => ?_, fun z => absurd (by rw [h1]; exact Int32.le_refl _) z⟩
    rw [nI_1]
    exact nx
  | succ m ih =>
    intro j e hij
    have nx2 := ih (j + 1) (by omega) (by omega)
    have em : max i j = j := by omega
    have en : min i j = i := by omega
    refine sgX5_pairsThatCould_16 _ _ _ hd hS ⟨fun z => absurd z (by rw [h1]; exact nI_ge (by omega) (by omega)), fun _ => ok_surety hn (by omega) hS rs hi (by omega) (by omega) ?_⟩
    rw [em, en, nI_1, nI_1]
    rw [fb_ct_succ, decide_eq_true hij, Bool.true_and] at nx2
    refine ⟨fun z => ?_, fun z => ?_⟩
    · rw [decide_eq_true z, if_pos rfl] at nx2; exact nx2
    · rw [decide_eq_false z, if_neg (by decide)] at nx2; exact nx2
theorem ok_pairsThatCould {F : Int32 → Hp → Prop} (hn : n ≤ 9) (hd : 3 ≤ d) (hS : Std h.2.2) (h1 : h.1 45 1 = nI n) (rs : RSN n least s h) (hq : F (nI (cou s n)) h) : OKi d mX5_pairsThatCould [.ref 45] h F X := by
  have go : ∀ m i, i + m = n → E mX5_pairsThatCould 2 0 0 4 [(0, .ref 45), (1, .int (nI (co1 s n i))), (2, .int (nI i))] [] h (Qi F) X := by
    intro m
    induction m with
    | zero =>
      intro i e
      have : i = n := by omega
      subst this
      rw [← co1_end] at hq
      exact sgX5_pairsThatCould_4 _ _ (Nat.le_refl _) hS ⟨fun _ => hq, fun z => absurd (by rw [h1]; exact Int32.le_refl _) z⟩
    | succ m ih =>
      intro i e
      refine sgX5_pairsThatCould_4 _ _ (Nat.le_refl _) hS ⟨fun z => absurd z (by rw [h1]; exact nI_ge (by omega) (by omega)), fun _ => ?_⟩
      have := lp_could16 (i := i) hn (Nat.le_refl _) hS h1 rs (by omega) (ih (i + 1) (by omega)) (n - (i + 1)) (i + 1) (by omega) (by omega)
      have e0 : fb_ct (fun b => decide (i < b) && decide (sur s b i = 0)) (i + 1) = 0 := fb_ct_zero.mpr fun k hk => by rw [decide_eq_false (by omega), Bool.false_and]
      rw [e0, Nat.add_zero] at this
      rw [nI_1]
      exact this
  exact enX5_pairsThatCould hd hS (go n 0 (by omega))
/-- the place of a deed among the members -/
def mbo (mb : Nat → Nat) (x : Int32) : Nat → Nat → Int32
  | 0, _ => -1
  | f + 1, i => if nI (mb i) = x then nI i else mbo mb x f (i + 1)
theorem ok_memberOf {F : Int32 → Hp → Prop} {x : Int32} (hn : n ≤ 9) (hd : 1 ≤ d) (hS : Std h.2.2) (h1 : h.1 45 1 = nI n) (hm : ∀ i, i < n → h.1 46 i = nI (mb i)) (hq : F (mbo mb x n 0) h) : OKi d mX5_memberOf [.ref 45, .int x] h F X := by
  have go : ∀ m i, i + m = n → F (mbo mb x m i) h → E mX5_memberOf 0 0 0 2 [(0, .ref 45), (1, .int x), (2, .int (nI i))] [] h (Qi F) X := by
    intro m
    induction m with
    | zero =>
      intro i e hF
      have : i = n := by omega
      subst this
      exact sgX5_memberOf_2 _ _ (Nat.zero_le _) hS ⟨fun _ => hF, fun z => absurd (by rw [h1]; exact Int32.le_refl _) z⟩
    | succ m ih =>
      intro i e hF
      refine sgX5_memberOf_2 _ _ (Nat.zero_le _) hS ⟨fun z => absurd z (by rw [h1]; exact nI_ge (by omega) (by omega)), fun _ => ⟨vin (by omega), ?_⟩⟩
      rw [nI_clamp (by omega), hm i (by omega), nI_1]
      rw [mbo] at hF
      refine ⟨fun z => ?_, fun z => ih (i + 1) (by omega) ?_⟩
      · rw [if_pos z] at hF; exact hF
      · rw [if_neg z] at hF; exact hF
  exact enX5_memberOf _ hd hS (go n 0 (by omega) hq)
theorem ok_placeOf {F : Int32 → Hp → Prop} {x : Int32} (hn : n ≤ 9) (hd : 1 ≤ d) (hS : Std h.2.2) (M : MBd n mb bad one h) (hq : F (mbo mb x n 0) h) : OKi d mX12_placeOf [.ref 91, .int x] h F X := by
  have go : ∀ m i, i + m = n → F (mbo mb x m i) h → E mX12_placeOf 0 0 0 2 [(0, .ref 91), (1, .int x), (2, .int (nI i))] [] h (Qi F) X := by
    intro m
    induction m with
    | zero =>
      intro i e hF
      have : i = n := by omega
      subst this
      exact sgX12_placeOf_2 _ _ (Nat.zero_le _) hS ⟨fun _ => hF, fun z => absurd (by rw [M.1]; exact Int32.le_refl _) z⟩
    | succ m ih =>
      intro i e hF
      refine sgX12_placeOf_2 _ _ (Nat.zero_le _) hS ⟨fun z => absurd z (by rw [M.1]; exact nI_ge (by omega) (by omega)), fun _ => ⟨vin (by omega), ?_⟩⟩
      rw [nI_clamp (by omega), (M.2.1 i (by omega)).1, nI_1]
      rw [mbo] at hF
      refine ⟨fun z => ?_, fun z => ih (i + 1) (by omega) ?_⟩
      · rw [if_pos z] at hF; exact hF
      · rw [if_neg z] at hF; exact hF
  exact enX12_placeOf _ hd hS (go n 0 (by omega) hq)
end SURETY
