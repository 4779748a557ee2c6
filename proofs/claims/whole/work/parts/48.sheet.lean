/-! a sheet: its three rows of bits -/
section SHEET
variable {h : Hp} {d S : Nat} {X : String → Hp → Prop}
def Bits (P Q R : Nat → Nat → Bool) (S : Nat) (h : Hp) : Prop := ∀ m, m < 16 → ∀ b, hb (h.2.1 (S + 1) m) b = P m b ∧ hb (h.2.1 (S + 2) m) b = Q m b ∧ hb (h.2.1 (S + 3) m) b = R m b
def lkd (x : Int32) : Bool := decide (x = 1) || decide (x = 2)
/-- the sheet S holds the states w -/
def Shw (w : Nat → Nat → Int32) (S : Nat) (h : Hp) : Prop := Bits (fun m b => decide (b < 60) && lkd (w b m)) (fun m b => decide (b < 60) && decide (w b m = 2)) (fun m b => decide (b < 60) && decide (w b m = 3)) S h
theorem sh_f1 {g : Hp} {j : Nat} {v : Int64} : Fr [S + 1, S + 2, S + 3] [] g (hL g (S + 1) j v) := Fr.pL (by simp [inW])
theorem sh_f2 {g : Hp} {j : Nat} {v : Int64} : Fr [S + 1, S + 2, S + 3] [] g (hL g (S + 2) j v) := Fr.pL (by simp [inW])
theorem sh_f3 {g : Hp} {j : Nat} {v : Int64} : Fr [S + 1, S + 2, S + 3] [] g (hL g (S + 3) j v) := Fr.pL (by simp [inW])
theorem Shw.fr {w : Nat → Nat → Int32} {h h' : Hp} (s : Shw w S h) (e : ∀ m, h'.2.1 (S + 1) m = h.2.1 (S + 1) m ∧ h'.2.1 (S + 2) m = h.2.1 (S + 2) m ∧ h'.2.1 (S + 3) m = h.2.1 (S + 3) m) : Shw w S h' := fun m hm b => by
  rw [(e m).1, (e m).2.1, (e m).2.2]; exact s m hm b
theorem ok_stateOf {F : Int32 → Hp → Prop} {w : Nat → Nat → Int32} {a m : Nat} (sh : ShOK S) (hd : 2 ≤ d) (hS : Std h.2.2) (s : Shw w S h) (ha : a < 60) (hm : m < 16) (hw : S03 (w a m)) (hq : F (w a m) h) : OKi d mX8_stateOf [.ref S, .int (nI a), .int (nI m)] h F X := by
  obtain ⟨s1, s2, s3⟩ := s m hm a
  simp only [decide_eq_true ha, Bool.true_and] at s1 s2 s3
  refine enX8_stateOf sh (nI a) (nI m) hd hS ⟨vin hm, ?_⟩
  rw [nI_clamp (by omega)]
  refine ok_has (Nat.le_refl _) hS (by omega) ⟨fun z => ⟨vin hm, ok_has (Nat.le_refl _) hS (by omega) ⟨fun z2 => ?_, fun z2 => ?_⟩⟩, fun z => ⟨vin hm, ok_has (Nat.le_refl _) hS (by omega) ⟨fun z2 => ?_, fun z2 => ?_⟩⟩⟩
  all_goals
    rw [s1] at z
    first | rw [s3] at z2 | rw [s2] at z2
    obtain e | e | e | e := hw <;> rw [e] at z z2 hq <;> first | exact absurd z (by decide) | exact absurd z2 (by decide) | exact absurd rfl z | exact absurd rfl z2 | exact hq
def otc (x y : Int32) : Int32 := if lkd x && lkd y then x + y - 2 else 3
theorem ok_outcomeOf {F : Int32 → Hp → Prop} {w : Nat → Nat → Int32} {a b m : Nat} (sh : ShOK S) (hd : 2 ≤ d) (hS : Std h.2.2) (s : Shw w S h) (ha : a < 60) (hbb : b < 60) (hm : m < 16) (hw : S03 (w a m)) (hw2 : S03 (w b m)) (hq : F (otc (w a m) (w b m)) h) : OKi d mX8_outcomeOf [.ref S, .int (nI m), .int (nI a), .int (nI b)] h F X := by
  obtain ⟨s1, s2, s3⟩ := s m hm a
  obtain ⟨t1, t2, t3⟩ := s m hm b
  simp only [decide_eq_true ha, decide_eq_true hbb, Bool.true_and] at s1 s2 t1 t2
  refine enX8_outcomeOf sh (nI m) (nI a) (nI b) hd hS ⟨vin hm, ?_⟩
  rw [nI_clamp (by omega)]
  refine ok_has (Nat.le_refl _) hS (by omega) ⟨fun z => ?_, fun z => ⟨vin hm, ok_has (Nat.le_refl _) hS (by omega) ⟨fun z2 => ?_, fun z2 => ⟨vin hm, ok_has (Nat.le_refl _) hS (by omega) ⟨fun z3 => ⟨vin hm, ok_has (Nat.le_refl _) hS (by omega) ⟨fun z4 => ?_, fun z4 => ?_⟩⟩, fun z3 => ⟨vin hm, ok_has (Nat.le_refl _) hS (by omega) ⟨fun z4 => ?_, fun z4 => ?_⟩⟩⟩⟩⟩⟩⟩
  · have := bI_0.mp z
    rw [s1] at this
    rw [otc, this] at hq; exact hq
  · have := bI_0.mp z2
    rw [t1] at this
    rw [otc, this, Bool.and_false] at hq; exact hq
  all_goals
    have l1 := bI_n0.mp z
    have l2 := bI_n0.mp z2
    rw [s1] at l1
    rw [t1] at l2
    rw [otc, l1, l2] at hq
    rw [s2] at z3
    rw [t2] at z4
    obtain e | e | e | e := hw <;> obtain e' | e' | e' | e' := hw2 <;> rw [e] at l1 z3 hq <;> rw [e'] at l2 z4 hq <;> first | exact absurd l1 (by decide) | exact absurd l2 (by decide) | exact absurd z3 (by decide) | exact absurd z4 (by decide) | exact absurd rfl z3 | exact absurd rfl z4 | exact hq
end SHEET
