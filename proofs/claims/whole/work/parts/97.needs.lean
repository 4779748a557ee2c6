/-! what calls refuse; how their answers are told -/
section NEEDS
variable {σ h : Hp} {d : Nat} {X : String → Hp → Prop} {x y : Int32}
/-- the class's answer: a value, or a refusal by its number -/
def CR (h : Hp) (cd : Nat) (v : Int32) (tb : Nat → String) (F : Int32 → Hp → Prop) (X : String → Hp → Prop) : Prop := (cd = 0 → ∀ q, Kp scr h q → F v q) ∧ (cd ≠ 0 → ∀ q, Kp scr h q → X (tb cd) q)
/-- the reference's -/
def MR (h : Hp) (cd : Nat) (v : Int32) (F : Int32 → Hp → Prop) : Prop := ∀ q r, Kp scm h q → q.1 91 0 = nI cd → (cd = 0 → r = v) → F r q
def t1 (a : String) : Nat → String := fun _ => a
def t2 (a b : String) : Nat → String := fun c => if c = 1 then a else b
def t3 (a b e : String) : Nat → String := fun c => if c = 1 then a else if c = 2 then b else e
theorem ok_isDeedC {F : Int32 → Hp → Prop} (hd : 2 ≤ d) (hS : Std h.2.2) (V : VS σ) (c : CD σ h) (hq : F (bI (isD σ x)) h) : OKi d mX11_isDeed [.ref 0, .int x] h F X := by
  have hD := V.d.2
  have no : isD σ x = false → F 0 h := fun e => by rw [e] at hq; exact hq
  have yes : isD σ x = true → F 1 h := fun e => by rw [e] at hq; exact hq
  have lo : ∀ j, x = nI j → j < nD σ → isD σ x = al σ j := fun j e hj => by
    subst e
    cases ea : al σ j
    · obtain z | z | z := isD_nI (a := j) V
      · obtain ⟨a, h1, h2, h3⟩ := isD_t V z
        have := nI_inj (by omega) (by omega) h2
        rw [this, h1] at ea; cases ea
      · omega
      · cases e2 : isD σ (nI j)
        · rfl
        · obtain ⟨a, h1, h2, h3⟩ := isD_t V e2
          have := nI_inj (by omega) (by omega) h2
          rw [this, h1] at ea; cases ea
    · obtain z | z | z := isD_nI (a := j) V
      · exact z
      · omega
      · rw [z] at ea; cases ea
  refine enX11_isDeed _ hd hS ⟨fun z => no ?_, fun z => ⟨fun z2 => no ?_, fun z2 => ?_⟩⟩
  · cases e : isD σ x
    · rfl
    · obtain ⟨a, _, h2, h3⟩ := isD_t V e
      rw [h2] at z
      exact absurd z (Int32.not_lt.mpr (nI_ge0 (by omega)))
  · rw [c.n] at z2
    cases e : isD σ x
    · rfl
    · obtain ⟨a, _, h2, h3⟩ := isD_t V e
      rw [h2] at z2
      exact absurd z2 (nI_ge h3 (by omega))
  · obtain ⟨j, hj, e⟩ := nI_nat (Int32.not_lt.mp z)
    have hjn : j < nD σ := by
      rw [c.n, e] at z2
      exact (nI_ltI hj (by omega)).mp (Int32.not_le.mp z2)
    have l := lo j e hjn
    rw [e] at l ⊢
    refine ok_has (by omega) hS (by omega) ?_
    rw [c.gone, decide_eq_true hjn, Bool.true_and]
    refine ⟨fun y => ?_, fun y => ?_⟩
    · have := bI_0.mp y
      rw [e] at yes
      refine yes ?_
      rw [l]
      cases ea : al σ j
      · rw [ea] at this; cases this
      · rfl
    · have := bI_n0.mp y
      rw [e] at no
      refine no ?_
      rw [l]
      cases ea : al σ j
      · rfl
      · rw [ea] at this; cases this
theorem ok_needDeed {F : Hp → Prop} (hd : 7 ≤ d) (hS : Std h.2.2) (V : VS σ) (c : CD σ h) (hq : isD σ x = true → F h) (hx : isD σ x = false → X nse h) : OKv d mX11_needDeed [.ref 0, .int x] h F X :=
  enX11_needDeed _ hd hS (ok_isDeedC (by omega) hS V c ⟨fun z => hx (bI_0.mp z), fun z => hq (bI_n0.mp z)⟩)
theorem ok_needTwo {F : Hp → Prop} (hd : 8 ≤ d) (hS : Std h.2.2) (V : VS σ) (c : CD σ h) (hq : isD σ x = true → isD σ y = true → x ≠ y → F h) (hx : ¬ (isD σ x = true ∧ isD σ y = true) → X nse h) (hx2 : isD σ x = true → isD σ y = true → x = y → X iae h) : OKv d mX11_needTwo [.ref 0, .int x, .int y] h F X :=
  enX11_needTwo _ _ hd hS (ok_needDeed (by omega) hS V c (fun h1 => ok_needDeed (by omega) hS V c (fun h2 => ⟨fun z => hx2 h1 h2 z, fun z => hq h1 h2 z⟩) fun h2 => hx fun z => absurd z.2 (by rw [h2]; decide)) fun h1 => hx fun z => absurd z.1 (by rw [h1]; decide))
theorem isN_lt {n : Nat} (h0 : ¬ x < 0) : isN x n = decide (x < nI n) := by
  rw [isN, decide_eq_true (Int32.not_lt.mp h0), Bool.true_and]
theorem isN_ng {n : Nat} (h0 : x < 0) : isN x n = false := by
  rw [isN, decide_eq_false (Int32.not_le.mpr h0), Bool.false_and]
theorem ok_needMark {F : Hp → Prop} (hd : 7 ≤ d) (hS : Std h.2.2) (hm : h.1 1 5 = nI (nM σ)) (hq : isN x (nM σ) = true → F h) (hx : isN x (nM σ) = false → X nse h) : OKv d mX11_needMark [.ref 0, .int x] h F X := by
  refine enX11_needMark _ hd hS ⟨fun z => hx (isN_ng z), fun z => ?_⟩
  rw [hm]
  exact ⟨fun z2 => hq (by rw [isN_lt z, decide_eq_true z2]), fun z2 => hx (by rw [isN_lt z, decide_eq_false z2])⟩
theorem ok_needUndoubted {F : Hp → Prop} {a : Nat} (hd : 7 ≤ d) (hS : Std h.2.2) (V : VS σ) (c : CD σ h) (ha : a < nD σ) (hq : dbt σ a = false → F h) (hx : dbt σ a = true → X ise h) : OKv d mX11_needUndoubted [.ref 0, .int (nI a)] h F X := by
  have hD := V.d.2
  refine enX11_needUndoubted _ hd hS (ok_has (by omega) hS (by omega) ?_)
  rw [c.dbt, decide_eq_true ha, Bool.true_and]
  exact ⟨fun z => hq (bI_0.mp z), fun z => hx (bI_n0.mp z)⟩
/-- between two numbers -/
def isW (x : Int32) (a b : Int32) : Bool := decide (a ≤ x) && decide (x ≤ b)
theorem isW_n {n : Nat} (hn : n < 2 ^ 31) (h : isW x 0 (nI n) = true) : ∃ j, j ≤ n ∧ x = nI j := by
  simp only [isW, Bool.and_eq_true, decide_eq_true_eq] at h
  obtain ⟨j, hj, e⟩ := nI_nat h.1
  rw [e] at h
  exact ⟨j, (nI_leI hj hn).mp h.2, e⟩
theorem ok_isW {F : Int32 → Hp → Prop} {a b : Int32} {a' b' : Int64} (ea : a' = a.toInt64) (eb : b' = b.toInt64) (hd : 1 ≤ d) (hS : Std h.2.2) (hq : F (bI (isW x a b)) h) : OKi d mX11_isWithin [.long x.toInt64, .long a', .long b'] h F X := by
  subst ea eb
  exact ok_within32 hd hS hq
theorem ok_isWM {F : Int32 → Hp → Prop} {a b : Int32} {a' b' : Int64} (ea : a' = a.toInt64) (eb : b' = b.toInt64) (hd : 1 ≤ d) (hS : Std h.2.2) (hq : F (bI (isW x a b)) h) : OKi d mX12_within [.long x.toInt64, .long a', .long b'] h F X := by
  subst ea eb
  refine ok_within hd hS ?_
  rw [wi_dec]; exact hq
theorem ok_failsM {F : Int32 → Hp → Prop} {n cd : Nat} {v : Int32} {h0 : Hp} (hd : 1 ≤ d) (k : Kp scm h0 h) (e : cd = n) (hn : n ≠ 0) (hq : MR h0 cd v F) : OKi d mX12_fails [.ref 91, .int (nI n)] h F X :=
  ok_fails hd k.1 fun q f e0 => hq q 0 (k.tr (f.km k.1)) (by rw [e0, e]) fun z => absurd (e.symm.trans z) hn
end NEEDS
