/-! deeds in their order: by hour, then by number -/
section ORDER
variable {σ : Hp} {Q : Nat → Bool} {n : Nat}
def frN (σ : Hp) (k : Nat) : Nat := (σ.1 99 k).toNatClampNeg
theorem frN_n (V : VS σ) {k : Nat} (hk : k < nD σ) : σ.1 99 k = nI (frN σ k) ∧ frN σ k ≤ 99999 := by
  obtain ⟨f, t, h1, h2, e1, _⟩ := (V.de hk).2.1
  have : frN σ k = f := by rw [frN, e1, nI_clamp (by omega)]
  rw [this]; exact ⟨e1, by omega⟩
abbrev ltD (σ : Hp) (a b : Nat) : Prop := frN σ a < frN σ b ∨ (frN σ a = frN σ b ∧ a < b)
def rnk (σ : Hp) (Q : Nat → Bool) (n d : Nat) : Nat := fb_ct (fun e => Q e && decide (ltD σ e d)) n
theorem ltD_tri (a b : Nat) : ltD σ a b ∨ a = b ∨ ltD σ b a := by unfold ltD; omega
theorem ltD_irr (a : Nat) : ¬ ltD σ a a := by unfold ltD; omega
theorem ltD_tr {a b c : Nat} (h1 : ltD σ a b) (h2 : ltD σ b c) : ltD σ a c := by unfold ltD at *; omega
theorem rnk_lt {a b : Nat} (ha : a < n) (qa : Q a = true) (h : ltD σ a b) : rnk σ Q n a < rnk σ Q n b := by
  refine ct_drop (k := a) (fun j _ z => ?_) ha ?_ ?_
  · simp only [Bool.and_eq_true, decide_eq_true_eq] at z ⊢
    exact ⟨z.1, ltD_tr z.2 h⟩
  · rw [decide_eq_false (ltD_irr a), Bool.and_false]
  · rw [qa, decide_eq_true h]; rfl
theorem rnk_inj {a b : Nat} (ha : a < n) (hb' : b < n) (qa : Q a = true) (qb : Q b = true) (e : rnk σ Q n a = rnk σ Q n b) : a = b := by
  obtain h | h | h := ltD_tri (σ := σ) a b
  · have := rnk_lt (Q := Q) ha qa h; omega
  · exact h
  · have := rnk_lt (Q := Q) hb' qb h; omega
theorem rnk_le {a : Nat} (ha : a < n) (qa : Q a = true) : rnk σ Q n a < fb_ct Q n := by
  refine ct_drop (k := a) (fun j _ z => ?_) ha ?_ qa
  · simp only [Bool.and_eq_true] at z; exact z.1
  · rw [decide_eq_false (ltD_irr a), Bool.and_false]
theorem rnk_cg {Q' : Nat → Bool} (h : ∀ k, k < n → Q k = Q' k) (d : Nat) : rnk σ Q n d = rnk σ Q' n d := fb_ct_cong fun k hk => by rw [h k hk]
/-- a row of all, each at its rank -/
def RK (σ : Hp) (Q : Nat → Bool) (n : Nat) (r : Nat → Nat) : Prop := ∀ p, p < fb_ct Q n → r p < n ∧ Q (r p) = true ∧ rnk σ Q n (r p) = p
theorem RK.at {r : Nat → Nat} (R : RK σ Q n r) {a : Nat} (ha : a < n) (qa : Q a = true) : r (rnk σ Q n a) = a := by
  have := R _ (rnk_le (σ := σ) ha qa)
  exact rnk_inj this.1 ha this.2.1 qa this.2.2
theorem RK.uniq {r r' : Nat → Nat} (R : RK σ Q n r) (R' : RK σ Q n r') {p : Nat} (hp : p < fb_ct Q n) : r p = r' p := by
  have h1 := R p hp
  have := R'.at h1.1 h1.2.1
  rw [h1.2.2] at this
  exact this.symm
/-- how many stand below a place of the row -/
theorem RK.cnt {r : Nat → Nat} (R : RK σ Q n r) : ∀ k, k ≤ fb_ct Q n → fb_ct (fun e => Q e && decide (rnk σ Q n e < k)) n = k
  | 0, _ => fb_ct_zero.mpr fun e _ => by rw [decide_eq_false (Nat.not_lt_zero _), Bool.and_false]
  | k + 1, h => by
    have ih := R.cnt k (by omega)
    have rk := R k (by omega)
    have u := fb_ct_upd (fun e => Q e && decide (rnk σ Q n e < k)) true (i := r k) (n := n) rk.1
    have c1 : fb_ct (fun e => Q e && decide (rnk σ Q n e < k + 1)) n = fb_ct (fun e => if e = r k then true else (Q e && decide (rnk σ Q n e < k))) n := by
      refine fb_ct_cong fun e he => ?_
      by_cases q : e = r k
      · rw [if_pos q, q, rk.2.1, rk.2.2, decide_eq_true (by omega)]; rfl
      · rw [if_neg q]
        cases qe : Q e
        · rfl
        · rw [Bool.true_and, Bool.true_and]
          have : rnk σ Q n e ≠ k := fun y => q (rnk_inj he rk.1 qe rk.2.1 (by rw [y, rk.2.2]))
          exact decide_eq_decide.mpr (by omega)
    rw [c1]
    have e0 : (Q (r k) && decide (rnk σ Q n (r k) < k)) = false := by rw [rk.2.2, decide_eq_false (Nat.lt_irrefl k), Bool.and_false]
    simp only [e0] at u
    rw [ih] at u
    simpa using u
/-- one more deed, the last by number -/
def ext (Q : Nat → Bool) (i : Nat) (k : Nat) : Bool := Q k && decide (k < i)
theorem ext_s {i : Nat} (k : Nat) : ext Q (i + 1) k = (ext Q i k || (Q k && decide (k = i))) := by
  rw [ext, ext]
  cases Q k
  · rfl
  · rw [Bool.true_and, Bool.true_and, Bool.true_and, ← Bool.decide_or]
    exact decide_eq_decide.mpr (by omega)
theorem ext_no {i : Nat} (h : Q i = false) : ext Q (i + 1) = ext Q i := funext fun k => by
  rw [ext_s]
  by_cases e : k = i
  · rw [e, h]; simp
  · rw [decide_eq_false e, Bool.and_false, Bool.or_false]
theorem ext_ct {i : Nat} (hi : i < n) (h : Q i = true) : fb_ct (ext Q (i + 1)) n = fb_ct (ext Q i) n + 1 := by
  have u := fb_ct_upd (ext Q i) true (i := i) (n := n) hi
  have c1 : fb_ct (ext Q (i + 1)) n = fb_ct (fun k => if k = i then true else ext Q i k) n := fb_ct_cong fun k _ => by
    rw [ext_s]
    by_cases e : k = i
    · rw [if_pos e, e, h]; simp
    · rw [if_neg e, decide_eq_false e, Bool.and_false, Bool.or_false]
  have e0 : ext Q i i = false := by rw [ext, decide_eq_false (Nat.lt_irrefl i), Bool.and_false]
  rw [c1]
  rw [e0] at u
  simpa using u
theorem ext_rnk {i e : Nat} (hi : i < n) (h : Q i = true) : rnk σ (ext Q (i + 1)) n e = rnk σ (ext Q i) n e + if ltD σ i e then 1 else 0 := by
  have e0 : ext Q i i = false := by rw [ext, decide_eq_false (Nat.lt_irrefl i), Bool.and_false]
  rw [rnk, rnk]
  by_cases q : ltD σ i e
  · rw [if_pos q]
    have u := fb_ct_upd (fun k => ext Q i k && decide (ltD σ k e)) true (i := i) (n := n) hi
    have c1 : fb_ct (fun k => ext Q (i + 1) k && decide (ltD σ k e)) n = fb_ct (fun k => if k = i then true else (ext Q i k && decide (ltD σ k e))) n := fb_ct_cong fun k _ => by
      rw [ext_s]
      by_cases e1 : k = i
      · rw [if_pos e1, e1, h, decide_eq_true q]; simp
      · rw [if_neg e1, decide_eq_false e1, Bool.and_false, Bool.or_false]
    rw [c1]
    simp only [e0, Bool.false_and] at u
    simpa using u
  · rw [if_neg q, Nat.add_zero]
    refine fb_ct_cong fun k _ => ?_
    rw [ext_s]
    by_cases e1 : k = i
    · rw [e1, e0, decide_eq_false q]; simp
    · rw [decide_eq_false e1, Bool.and_false, Bool.or_false]
/-- the new one is put at place k: those above go up -/
theorem RK.put {r r' : Nat → Nat} {i k : Nat} (R : RK σ (ext Q i) n r) (hi : i < n) (h : Q i = true) (hk : k ≤ fb_ct (ext Q i) n)
    (lo : ∀ p, p < k → frN σ (r p) ≤ frN σ i) (hi2 : ∀ p, k ≤ p → p < fb_ct (ext Q i) n → frN σ i < frN σ (r p))
    (e1 : ∀ p, p < k → r' p = r p) (e2 : r' k = i) (e3 : ∀ p, k < p → p ≤ fb_ct (ext Q i) n → r' p = r (p - 1)) : RK σ (ext Q (i + 1)) n r' := by
  have qi : ext Q (i + 1) i = true := by rw [ext, h, decide_eq_true (by omega)]; rfl
  have up : ∀ e, ext Q i e = true → ext Q (i + 1) e = true := fun e he => by rw [ext_s, he]; rfl
  have ilt : ∀ e, ext Q i e = true → e < i := fun e he => by
    simp only [ext, Bool.and_eq_true, decide_eq_true_eq] at he
    exact he.2
  intro p hp
  rw [ext_ct hi h] at hp
  by_cases c1 : p < k
  · have rp := R p (by omega)
    have l := lo p c1
    have := ilt _ rp.2.1
    rw [e1 p c1]
    refine ⟨rp.1, up _ rp.2.1, ?_⟩
    rw [ext_rnk hi h, rp.2.2, if_neg (by unfold ltD; omega)]; rfl
  · by_cases c2 : p = k
    · subst c2
      rw [e2]
      refine ⟨hi, qi, ?_⟩
      rw [ext_rnk hi h, if_neg (ltD_irr i), Nat.add_zero, rnk, ← R.cnt p hk]
      refine fb_ct_cong fun e he => ?_
      cases qe : ext Q i e
      · rfl
      · have ei := ilt _ qe
        rw [Bool.true_and, Bool.true_and]
        have ra := R.at he qe
        have rl := rnk_le (σ := σ) he qe
        refine decide_eq_decide.mpr ⟨fun z => ?_, fun z => ?_⟩
        · refine Classical.byContradiction fun y => ?_
          have := hi2 (rnk σ (ext Q i) n e) (by omega) rl
          rw [ra] at this
          unfold ltD at z; omega
        · have := lo _ z
          rw [ra] at this
          unfold ltD; omega
    · have rp := R (p - 1) (by omega)
      have l := hi2 (p - 1) (by omega) (by omega)
      rw [e3 p (by omega) (by omega)]
      refine ⟨rp.1, up _ rp.2.1, ?_⟩
      rw [ext_rnk hi h, rp.2.2, if_pos (by unfold ltD; omega)]
      omega
/-- the row of all -/
def sqF (σ : Hp) (Q : Nat → Bool) (n p : Nat) : Nat := fa_first (fun e => Q e && decide (rnk σ Q n e = p)) n
theorem RK.sq {r : Nat → Nat} (R : RK σ Q n r) {p : Nat} (hp : p < fb_ct Q n) : r p = sqF σ Q n p := by
  have rp := R p hp
  have hpp : (fun e => Q e && decide (rnk σ Q n e = p)) (r p) = true := by
    simp only [rp.2.1, decide_eq_true rp.2.2, Bool.and_self]
  have le : sqF σ Q n p ≤ r p := by
    refine Classical.byContradiction fun q => ?_
    have := fa_first_no (fun e => Q e && decide (rnk σ Q n e = p)) n (r p) (by unfold sqF at q; omega)
    exact absurd (hpp.symm.trans this) (by decide)
  have lt : sqF σ Q n p < n := Nat.lt_of_le_of_lt le rp.1
  have y := fa_first_yes (fun e => Q e && decide (rnk σ Q n e = p)) n lt
  rw [Bool.and_eq_true, decide_eq_true_eq] at y
  exact rnk_inj rp.1 lt rp.2.1 y.1 (by rw [rp.2.2]; exact y.2.symm)
end ORDER
