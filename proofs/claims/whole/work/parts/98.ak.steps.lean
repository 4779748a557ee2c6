/-! steps of hands -/
section STEPS
variable {σ h : Hp} {d : Nat} {X : String → Hp → Prop} {Q : Nat → Bool} {n : Nat}
theorem RK_sq (hQ : ∀ k, Q k = true → k < 64) : RK σ Q n (sqF σ Q n) := by
  have el : ∀ p, p < fb_ct Q n → Q (mbP Q p) = true ∧ mbP Q p < n ∧ fb_ct Q (mbP Q p) = p := fun p hp => mbP_in hQ hp
  have key : ∀ y, y < fb_ct Q n → ∃ e, e < n ∧ Q e = true ∧ rnk σ Q n e = y := fun y hy => by
    obtain ⟨p, hp, e⟩ := fb_onto (n := fb_ct Q n) (f := fun p => rnk σ Q n (mbP Q p)) (fun p hp => rnk_le (el p hp).2.1 (el p hp).1) (fun i j hij hj e => by
      have e : rnk σ Q n (mbP Q i) = rnk σ Q n (mbP Q j) := e
      have := rnk_inj (el i (by omega)).2.1 (el j hj).2.1 (el i (by omega)).1 (el j hj).1 e
      have h1 := (el i (by omega)).2.2
      have h2 := (el j hj).2.2
      rw [this] at h1
      omega) hy
    exact ⟨_, (el p hp).2.1, (el p hp).1, e⟩
  intro p hp
  obtain ⟨e, he, qe, re⟩ := key p hp
  have hpp : (fun e => Q e && decide (rnk σ Q n e = p)) e = true := by simp only [qe, decide_eq_true re, Bool.and_self]
  have le : sqF σ Q n p ≤ e := by
    refine Classical.byContradiction fun q => ?_
    have := fa_first_no (fun e => Q e && decide (rnk σ Q n e = p)) n e (by unfold sqF at q; omega)
    exact absurd (hpp.symm.trans this) (by decide)
  have lt : sqF σ Q n p < n := Nat.lt_of_le_of_lt le he
  have y := fa_first_yes (fun e => Q e && decide (rnk σ Q n e = p)) n lt
  rw [Bool.and_eq_true, decide_eq_true_eq] at y
  exact ⟨lt, y.1, y.2⟩
def Qh (σ : Hp) (j k : Nat) : Bool := stn σ k && isof σ k (nI j)
def nh (σ : Hp) (j : Nat) : Nat := fb_ct (Qh σ j) (nD σ)
def sq (σ : Hp) (j p : Nat) : Nat := sqF σ (Qh σ j) (nD σ) p
def hlk (σ : Hp) (j : Nat) : Nat → List (Nat × Nat)
  | 0 => []
  | k + 1 => hlk σ j k ++ [(sq σ j k, sq σ j (k + 1))]
def stL (σ : Hp) : Nat → List (Nat × Nat)
  | 0 => []
  | j + 1 => stL σ j ++ hlk σ j (nh σ j - 1)
theorem Qh_lt (V : VS σ) {j k : Nat} (h : Qh σ j k = true) : k < nD σ ∧ k < 64 ∧ stn σ k = true := by
  have hD := V.d.2
  simp only [Qh, Bool.and_eq_true] at h
  have := (stn_al h.1).2
  exact ⟨this, by omega, h.1⟩
theorem sq_in (V : VS σ) {j p : Nat} (hp : p < nh σ j) : sq σ j p < nD σ ∧ Qh σ j (sq σ j p) = true ∧ rnk σ (Qh σ j) (nD σ) (sq σ j p) = p := RK_sq (fun k hk => (Qh_lt V hk).2.1) p hp
theorem hlk_len (j : Nat) : ∀ k, (hlk σ j k).length = k
  | 0 => rfl
  | k + 1 => by rw [hlk, List.length_append, hlk_len j k]; rfl
theorem stL_len : ∀ j, (stL σ j).length = fb_sm (fun i => nh σ i - 1) j
  | 0 => rfl
  | j + 1 => by rw [stL, List.length_append, stL_len j, hlk_len, fb_sm_succ]
theorem ct_le2 {P R : Nat → Bool} {n : Nat} : fb_ct (fun k => P k || R k) n ≤ fb_ct P n + fb_ct R n := by
  have e : fb_ct (fun k => P k || R k) n = fb_ct (fun k => P k || (R k && !P k)) n := fb_ct_cong fun k _ => by cases P k <;> cases R k <;> rfl
  rw [e, fb_ct_or fun k _ z => by
    obtain ⟨z1, z2⟩ := z
    rw [z1] at z2; simp at z2]
  have : fb_ct (fun k => R k && !P k) n ≤ fb_ct R n := fb_ct_sub fun k _ z => by
    simp only [Bool.and_eq_true] at z; exact z.1
  omega
theorem ct_one1 {a n : Nat} : fb_ct (fun k => decide (k = a)) n ≤ 1 := by
  by_cases h : a < n
  · rw [ct_only h]; exact Nat.le_refl _
  · have : fb_ct (fun k => decide (k = a)) n = 0 := fb_ct_zero.mpr fun k hk => decide_eq_false (by omega)
    omega
theorem nh_sum (V : VS σ) : fb_sm (nh σ) 20 ≤ 120 := by
  have hD := V.d.2
  have hH := V.h.2
  have e : fb_sm (nh σ) 20 = fb_sm (fun k => fb_ct (fun j => Qh σ j k) 20) (nD σ) := fb_swap 20
  rw [e]
  refine Nat.le_trans (fb_sm_bound (c := 2) fun k hk => ?_) (by omega)
  obtain ⟨z1, z2⟩ | ⟨i, j, hi, hj, z1, z2⟩ := (V.de hk).2.2.1
  · have : fb_ct (fun j => Qh σ j k) 20 = 0 := fb_ct_zero.mpr fun j hj => by
      have n1 : ¬ (-1 : Int32) = nI j := fun z => nI_neg (show j < 2 ^ 31 by omega) z.symm
      rw [Qh, isof, z1, z2, decide_eq_false n1]; simp
    omega
  · refine Nat.le_trans (fb_ct_sub (q := fun x => decide (x = i) || decide (x = j)) fun x hx z => ?_) (Nat.le_trans ct_le2 (Nat.add_le_add ct_one1 ct_one1))
    simp only [Qh, isof, z1, z2, Bool.and_eq_true, Bool.or_eq_true, decide_eq_true_eq] at z ⊢
    obtain ⟨_, z | z⟩ := z
    · exact Or.inl (nI_inj (by omega) (by omega) z).symm
    · exact Or.inr (nI_inj (by omega) (by omega) z).symm
theorem st_lt (V : VS σ) {j k : Nat} (hj : j < 20) (hk : k + 1 < nh σ j) : (stL σ j).length + k < 119 := by
  have h1 := fb_sm_part (nh σ) hj
  have h2 := nh_sum V
  have h3 : fb_sm (fun i => nh σ i - 1) j ≤ fb_sm (nh σ) j := fb_sm_le fun i _ => by omega
  rw [stL_len]
  omega
/-- steps, as rows hold them -/
def gd (L : List (Nat × Nat)) (i : Nat) : Nat × Nat := L.getD i (0, 0)
theorem gd_lo {L M : List (Nat × Nat)} {i : Nat} (h : i < L.length) : gd (L ++ M) i = gd L i := by
  simp only [gd, List.getD_eq_getElem?_getD, List.getElem?_append_left h]
theorem gd_end {L : List (Nat × Nat)} {x : Nat × Nat} : gd (L ++ [x]) L.length = x := by
  simp only [gd, List.getD_eq_getElem?_getD, List.getElem?_append_right (Nat.le_refl _), Nat.sub_self]
  rfl
def SLc (L : List (Nat × Nat)) (q : Hp) : Prop := q.1 57 2 = nI L.length ∧ ∀ i, i < L.length → q.1 58 i = nI (gd L i).1 ∧ q.1 59 i = nI (gd L i).2
def SLb (σ : Hp) (L : List (Nat × Nat)) : Prop := ∀ i, i < L.length → (gd L i).1 < nD σ ∧ (gd L i).2 < nD σ
theorem SLb.app {L M : List (Nat × Nat)} (a : SLb σ L) (b : SLb σ M) : SLb σ (L ++ M) := fun i hi => by
  rw [List.length_append] at hi
  by_cases h : i < L.length
  · rw [gd_lo h]; exact a i h
  · have e : gd (L ++ M) i = gd M (i - L.length) := by
      simp only [gd, List.getD_eq_getElem?_getD, List.getElem?_append_right (Nat.not_lt.mp h)]
    rw [e]; exact b _ (by omega)
theorem hlk_b (V : VS σ) {j : Nat} : ∀ k, k < nh σ j ∨ k = 0 → SLb σ (hlk σ j k)
  | 0, _ => fun i hi => absurd hi (Nat.not_lt_zero _)
  | k + 1, h => by
    refine (hlk_b V k (by omega)).app fun i hi => ?_
    have : i = 0 := by simp at hi; omega
    subst this
    exact ⟨(sq_in V (by omega)).1, (sq_in V (by omega)).1⟩
theorem stL_b (V : VS σ) : ∀ j, SLb σ (stL σ j)
  | 0 => fun i hi => absurd hi (Nat.not_lt_zero _)
  | j + 1 => (stL_b V j).app (hlk_b V _ (by omega))
/-- putting a step behind all -/
theorem ok_order {F : Int32 → Hp → Prop} {x : Int64} (hd : 2 ≤ d) (hS : Std h.2.2) (V : VS σ) (c : CD σ h) (hx : ∀ k, hb x k = Q k) (hQ : ∀ k, Q k = true → k < nD σ)
    (hq : ∀ q, Fr [60] [] h q → (∀ p, p < fb_ct Q (nD σ) → q.1 60 p = nI (sqF σ Q (nD σ) p)) → F (nI (fb_ct Q (nD σ))) q) : OKi d mX9_order [.ref 57, .long x] h F X := by
  have hD := V.d.2
  have ec : ∀ k, k < nD σ → ext Q (nD σ) k = Q k := fun k hk => by rw [ext, decide_eq_true hk, Bool.and_true]
  have go : ∀ (m i : Nat) (r : Nat → Nat) (q : Hp), i + m = nD σ → Fr [60] [] h q → RK σ (ext Q i) (nD σ) r → (∀ p, p < fb_ct (ext Q i) (nD σ) → q.1 60 p = nI (r p)) → E mX9_order 1 0 0 5 [(0, .ref 57), (1, .long x), (3, .int (nI (fb_ct (ext Q i) (nD σ)))), (4, .int (nI i))] [] q (Qi F) X := by
    intro m
    induction m with
    | zero =>
      intro i r q e fr R I
      have : i = nD σ := by omega
      subst this
      have e1 : fb_ct (ext Q (nD σ)) (nD σ) = fb_ct Q (nD σ) := fb_ct_cong fun k hk => ec k hk
      have R' : RK σ Q (nD σ) r := fun p hp => by
        have := R p (by rw [e1]; exact hp)
        rw [ec _ this.1] at this
        exact ⟨this.1, this.2.1, (rnk_cg (σ := σ) ec (r p)).symm.trans this.2.2⟩
      rw [e1] at I ⊢
      refine sgX9_order_5 _ _ _ (Nat.le_refl _) (fr.sd hS) ⟨fun _ => hq q fr fun p hp => by rw [I p hp, R'.sq hp], fun z => absurd (by rw [fr.i 8 1, c.n]; exact Int32.le_refl _) z⟩
    | succ m ih =>
      intro i r q e fr R I
      have hi : i < nD σ := by omega
      have hS' := fr.sd hS
      have mle := fb_ct_le (ext Q i) (nD σ)
      refine sgX9_order_5 _ _ _ (Nat.le_refl _) hS' ⟨fun z => absurd z (by rw [fr.i 8 1, c.n]; exact nI_ge hi (by omega)), fun _ => ok_has (by omega) hS' (by omega) ?_⟩
      rw [hx, nI_1]
      refine ⟨fun z => ?_, fun z => ?_⟩
      · have := ih (i + 1) r q (by omega) fr
        rw [ext_no (bI_0.mp z)] at this
        exact this R I
      · have qi := bI_n0.mp z
        have m1 := ext_ct (n := nD σ) hi qi
        have m60 : fb_ct (ext Q i) (nD σ) < 60 := by
          have := fb_ct_le (ext Q (i + 1)) (nD σ)
          omega
        have fri := frN_n V hi
        have e10 : ∀ g, Fr [60] [] h g → ∀ k, k < nD σ → g.1 10 k = nI (frN σ k) := fun g fg k hk => by rw [fg.i 10 k, (c.de hk).2.1, (frN_n V hk).1]
        have put : ∀ (k : Nat) (g : Hp), k ≤ fb_ct (ext Q i) (nD σ) → Fr [60] [] h g → (∀ p, p < k → g.1 60 p = nI (r p)) → (∀ p, k < p → p ≤ fb_ct (ext Q i) (nD σ) → g.1 60 p = nI (r (p - 1))) →
            (∀ p, p < k → frN σ (r p) ≤ frN σ i) → (∀ p, k ≤ p → p < fb_ct (ext Q i) (nD σ) → frN σ i < frN σ (r p)) →
            E mX9_order 1 0 0 5 [(0, .ref 57), (1, .long x), (3, .int (nI (fb_ct (ext Q i) (nD σ)) + 1)), (4, .int (nI i + 1))] [] (hI g 60 k (nI i)) (Qi F) X := fun k g hk fg I1 I2 lo hi2 => by
          have := ih (i + 1) (fun p => if p < k then r p else if p = k then i else r (p - 1)) (hI g 60 k (nI i)) (by omega) (Fr.tr fg Fr.pI) (R.put hi qi hk lo hi2 (fun p hp => if_pos hp) (by rw [if_neg (Nat.lt_irrefl k), if_pos rfl]) fun p h1 h2 => by rw [if_neg (by omega), if_neg (by omega)]) (fun p hp => by
            rw [m1] at hp
            rw [hI_if]
            by_cases c1 : p = k
            · rw [if_pos c1, if_neg (by omega), if_pos c1]
            · rw [if_neg c1]
              by_cases c2 : p < k
              · rw [if_pos c2, I1 p c2]
              · rw [if_neg c2, if_neg c1, I2 p (by omega) (by omega)])
          rw [nI_1, nI_1, ← m1]
          exact this
        have shift : ∀ (k : Nat) (g : Hp), k ≤ fb_ct (ext Q i) (nD σ) → Fr [60] [] h g → (∀ p, p < k → g.1 60 p = nI (r p)) → (∀ p, k < p → p ≤ fb_ct (ext Q i) (nD σ) → g.1 60 p = nI (r (p - 1))) →
            (∀ p, k ≤ p → p < fb_ct (ext Q i) (nD σ) → frN σ i < frN σ (r p)) →
            E mX9_order 1 0 0 29 [(0, .ref 57), (1, .long x), (3, .int (nI (fb_ct (ext Q i) (nD σ)))), (4, .int (nI i)), (5, .int (nI k))] [] g (Qi F) X := by
          intro k
          induction k with
          | zero =>
            intro g hk fg I1 I2 hi2
            refine sgX9_order_29 _ _ _ _ (Nat.le_refl _) (fg.sd hS) ⟨fun _ => ⟨vin (by omega), ?_⟩, fun z => absurd (Int32.le_refl _) z⟩
            rw [nI_clamp (by omega)]
            exact put 0 g (Nat.zero_le _) fg I1 I2 (fun p hp => absurd hp (Nat.not_lt_zero _)) hi2
          | succ k ih2 =>
            intro g hk fg I1 I2 hi2
            have rk := R k (by omega)
            refine sgX9_order_29 _ _ _ _ (Nat.le_refl _) (fg.sd hS) ⟨fun z => absurd z (nI_ge (a := 0) (by omega) (by omega)), fun _ => ?_⟩
            rw [nI_m1, pk_m1, nI_clamp (by omega), nI_clamp (by omega), nI_clamp (by omega), I1 k (by omega), nI_clamp (by omega), e10 g fg _ rk.1, e10 g fg i hi]
            refine ⟨vin (by omega), vin (by omega), vin (by omega), fun z => ⟨vin (by omega), ?_⟩, fun z => ⟨vin (by omega), vin (by omega), ?_⟩⟩
            · have le := (nI_leI (by have := (frN_n V rk.1).2; omega) (by omega)).mp z
              refine put (k + 1) g hk fg I1 I2 (fun p hp => ?_) hi2
              have rp := R p (by omega)
              refine Nat.le_trans ?_ le
              by_cases y : p = k
              · rw [y]; exact Nat.le_refl _
              · refine Classical.byContradiction fun y2 => ?_
                have := rnk_lt (σ := σ) (Q := ext Q i) (n := nD σ) (a := r k) (b := r p) rk.1 rk.2.1 (Or.inl (by omega))
                rw [rk.2.2, rp.2.2] at this
                omega
            · have lt : frN σ i < frN σ (r k) := by
                refine Classical.byContradiction fun y => z ?_
                exact (nI_leI (by have := (frN_n V rk.1).2; omega) (by omega)).mpr (by omega)
              refine ih2 _ (by omega) (Fr.tr fg Fr.pI) (fun p hp => ?_) (fun p h1 h2 => ?_) fun p h1 h2 => ?_
              · rw [hI_if, if_neg (by omega)]; exact I1 p (by omega)
              · rw [hI_if]
                by_cases y : p = k + 1
                · rw [if_pos y, y]; rfl
                · rw [if_neg y]; exact I2 p (by omega) h2
              · by_cases y : p = k
                · rw [y]; exact lt
                · exact hi2 p (by omega) h2
        exact shift _ q (Nat.le_refl _) fr I (fun p h1 h2 => by omega) fun p h1 h2 => by omega
  have e0 : fb_ct (ext Q 0) (nD σ) = 0 := fb_ct_zero.mpr fun k _ => by rw [ext, decide_eq_false (Nat.not_lt_zero _), Bool.and_false]
  have := go (nD σ) 0 (fun _ => 0) h (by omega) Fr.rf (fun p hp => by rw [e0] at hp; omega) (fun p hp => by rw [e0] at hp; omega)
  rw [e0] at this
  exact enX9_order _ hd hS this
theorem ok_gather {F : Hp → Prop} (hd : 3 ≤ d) (hS : Std h.2.2) (V : VS σ) (c : CS σ h) (hq : ∀ q, Fr [58, 59, 60] [(57, 2)] h q → SLc (stL σ (nH σ)) q → F q) : OKv d mX9_gather [.ref 57] h F X := by
  have hD := V.d.2
  have hH := V.h.2
  have f0 : Fr [] [(57, 2)] h (hI h 57 2 0) := Fr.pI
  refine enX9_gather hd hS (ok_standing (by omega) (f0.sd hS) V (c.1.fr f0) fun r hr => ?_)
  have h6 : h.1 1 6 = nI (nH σ) := by rw [c.2.2.1.2.2.1, V.h.1]
  have go : ∀ (n j : Nat) (q : Hp), j + n = nH σ → Fr [58, 59, 60] [(57, 2)] h q → SLc (stL σ j) q → E mX9_gather 2 0 0 15 [(0, .ref 57), (1, .long r), (3, .int (nI j))] [] q (Qv F) X := by
    intro n
    induction n with
    | zero =>
      intro j q e fr S
      have : j = nH σ := by omega
      subst this
      exact sgX9_gather_15 _ _ (Nat.le_refl _) (fr.sd hS) ⟨fun _ => hq q fr S, fun z => absurd (by rw [fr.i 1 6, h6]; exact Int32.le_refl _) z⟩
    | succ n ih =>
      intro j q e fr S
      have hj : j < nH σ := by omega
      have hS' := fr.sd hS
      refine sgX9_gather_15 _ _ (Nat.le_refl _) hS' ⟨fun z => absurd z (by rw [fr.i 1 6, h6]; exact nI_ge hj (by omega)), fun _ => ⟨vin (by omega), ?_⟩⟩
      rw [nI_clamp (by omega)]
      refine ok_order (Q := Qh σ j) (by omega) hS' V (c.1.fr fr) (fun k => ?_) (fun k hk => (Qh_lt V hk).1) fun q2 f2 r2 => ?_
      · rw [hb_and, hr, fr.l 17 j, c.1.of (by omega) k, Qh]
        cases es : stn σ k
        · rw [Bool.and_false]; rfl
        · have hk := (stn_al es).2
          rw [(stn_al es).1, Bool.true_and, Bool.and_true, Bool.true_and]
          cases ei : isof σ k (nI j)
          · rw [Bool.and_false]
          · have : sol σ k = true := by
              obtain ⟨z1, z2⟩ | ⟨a, b, ha, hb', z1, z2⟩ := (V.de hk).2.2.1
              · have n1 : ¬ (-1 : Int32) = nI j := fun z => nI_neg (show j < 2 ^ 31 by omega) z.symm
                rw [isof, z1, z2, decide_eq_false n1] at ei
                cases ei
              · rw [sol, z1, decide_eq_false (nI_neg (by omega))]; rfl
            rw [this]; rfl
      · have fr2 : Fr [58, 59, 60] [(57, 2)] h q2 := Fr.tr fr (Fr.mono f2)
        have S2 : SLc (stL σ j) q2 := ⟨by rw [f2.i 57 2]; exact S.1, fun i hi => by rw [f2.i 58 i, f2.i 59 i]; exact S.2 i hi⟩
        have inner : ∀ (m k : Nat) (g : Hp), k + m = nh σ j → 1 ≤ k → Fr [58, 59] [(57, 2)] q2 g → SLc (stL σ j ++ hlk σ j (k - 1)) g → E mX9_gather 2 0 0 46 [(0, .ref 57), (1, .long r), (3, .int (nI j)), (4, .int (nI (nh σ j))), (5, .int (nI k))] [] g (Qv F) X := by
          intro m
          induction m with
          | zero =>
            intro k g ek h1 fg Sg
            have : k = nh σ j := by omega
            subst this
            refine sgX9_gather_46 _ _ _ _ (Nat.le_refl _) (fg.sd (fr2.sd hS)) ⟨fun _ => ?_, fun z => absurd (Int32.le_refl _) z⟩
            rw [nI_1]
            exact ih (j + 1) g (by omega) (Fr.tr fr2 (Fr.mono fg)) Sg
          | succ m ih2 =>
            intro k g ek h1 fg Sg
            have nhl : nh σ j ≤ 60 := Nat.le_trans (fb_ct_le _ _) hD
            have sl := st_lt V (show j < 20 by omega) (k := k - 1) (by omega)
            have len : (stL σ j ++ hlk σ j (k - 1)).length = (stL σ j).length + (k - 1) := by rw [List.length_append, hlk_len]
            obtain ⟨c', rfl⟩ : ∃ c', k = c' + 1 := ⟨k - 1, by omega⟩
            rw [Nat.add_sub_cancel] at sl len Sg
            refine sgX9_gather_46 _ _ _ _ (Nat.le_refl _) (fg.sd (fr2.sd hS)) ⟨fun z => absurd z (nI_ge (by omega) (by omega)), fun _ => ⟨fun z => absurd z (by rw [Sg.1, len]; exact nI_ge (a := (stL σ j).length + c') (b := 120) (by omega) (by omega)), fun _ => ?_⟩⟩
            rw [nI_m1, Sg.1, len, nI_clamp (by omega), nI_clamp (by omega), nI_clamp (by omega), fg.i 60, fg.i 60, r2 c' (show c' < nh σ j by omega), r2 (c' + 1) (show c' + 1 < nh σ j by omega), nI_1, nI_1]
            refine ⟨vin (by omega), vin (by omega), vin (by omega), vin (by omega), ih2 (c' + 1 + 1) _ (by omega) (by omega) (Fr.tr fg (Fr.tr Fr.pI (Fr.tr Fr.pI Fr.pI))) ?_⟩
            rw [Nat.add_sub_cancel]
            have eL : stL σ j ++ hlk σ j (c' + 1) = (stL σ j ++ hlk σ j c') ++ [(sq σ j c', sq σ j (c' + 1))] := by rw [hlk, List.append_assoc]
            rw [eL]
            refine ⟨by rw [hI_k, List.length_append, len]; rfl, fun i hi => ?_⟩
            rw [List.length_append, len] at hi
            have hi : i < (stL σ j).length + c' + 1 := hi
            rw [hI_c (by decide), hI_c (by decide), hI_if, hI_c (by decide), hI_if]
            by_cases y : i = (stL σ j).length + c'
            · rw [if_pos y, if_pos y, y, ← len, gd_end]; exact ⟨rfl, rfl⟩
            · rw [if_neg y, if_neg y, gd_lo (by omega)]
              exact Sg.2 i (by omega)
        by_cases h0 : nh σ j = 0
        · have e0 : fb_ct (Qh σ j) (nD σ) = 0 := h0
          rw [e0]
          refine sgX9_gather_46 _ _ _ _ (Nat.le_refl _) (fr2.sd hS) ⟨fun _ => ?_, fun z => absurd (show (nI 0) ≤ (1 : Int32) by decide) z⟩
          rw [nI_1]
          refine ih (j + 1) q2 (by omega) fr2 ?_
          rw [stL, h0]
          have : hlk σ j (0 - 1) = [] := rfl
          rw [this, List.append_nil]
          exact S2
        · refine inner (nh σ j - 1) 1 q2 (by omega) (Nat.le_refl _) Fr.rf ?_
          have : hlk σ j (1 - 1) = [] := rfl
          rw [this, List.append_nil]
          exact S2
  exact go (nH σ) 0 _ (by omega) (Fr.mono f0) ⟨hI_k, fun i hi => absurd hi (Nat.not_lt_zero _)⟩
end STEPS
