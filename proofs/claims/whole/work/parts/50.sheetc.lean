/-! a sheet: what is there in a deed; copies -/
section SHEETC
variable {h : Hp} {d S : Nat} {X : String → Hp → Prop} {w : Nat → Nat → Int32} {a : Nat}
def thr (w : Nat → Nat → Int32) (a n : Nat) : Nat := fb_ct (fun m => decide (w a m = 2)) n
theorem lp_thereIn {F : Int32 → Hp → Prop} (sh : ShOK S) (hd : 1 ≤ d) (hS : Std h.2.2) (s : Shw w S h) (ha : a < 60) (hq : F (nI (thr w a 16)) h) : ∀ (n i : Nat), i + n = 16 →
    E mX8_thereIn d 0 0 4 [(0, .ref S), (1, .int (nI a)), (2, .int (nI (thr w a i))), (3, .int (nI i))] [] h (Qi F) X := by
  intro n
  induction n with
  | zero =>
    intro i e
    have : i = 16 := by omega
    subst this
    exact sgX8_thereIn_4 sh _ _ _ hd hS ⟨fun _ => hq, fun z => absurd (by decide) z⟩
  | succ n ih =>
    intro i e
    have hi : i < 16 := by omega
    have nx := ih (i + 1) (by omega)
    have el : thr w a (i + 1) = thr w a i + (if decide (w a i = 2) then 1 else 0) := rfl
    refine sgX8_thereIn_4 sh _ _ _ hd hS ⟨fun z => absurd z (nI_ge (b := 16) hi (by omega)), fun _ => ⟨vin hi, ?_⟩⟩
    rw [nI_1, nI_1, nI_clamp (by omega)]
    have e2 := (s i hi a).2.1
    simp only [decide_eq_true ha, Bool.true_and] at e2
    refine ok_has hd hS (by omega) ⟨fun z => ?_, fun z => ?_⟩
    · have := bI_0.mp z
      rw [e2] at this
      rw [el, this] at nx; exact nx
    · have := bI_n0.mp z
      rw [e2] at this
      rw [el, this] at nx; exact nx
theorem ok_thereIn {F : Int32 → Hp → Prop} (sh : ShOK S) (hd : 2 ≤ d) (hS : Std h.2.2) (s : Shw w S h) (ha : a < 60) (hq : F (nI (thr w a 16)) h) : OKi d mX8_thereIn [.ref S, .int (nI a)] h F X :=
  enX8_thereIn sh (nI a) hd hS (lp_thereIn sh (Nat.le_refl _) hS s ha hq 16 0 (by omega))
def CopInv (S S2 : Nat) (h g : Hp) (i : Nat) : Prop := ∀ m, m < i → g.2.1 (S + 1) m = h.2.1 (S2 + 1) m ∧ g.2.1 (S + 2) m = h.2.1 (S2 + 2) m ∧ g.2.1 (S + 3) m = h.2.1 (S2 + 3) m
theorem lp_copyFrom {F : Hp → Prop} {S2 : Nat} (sh : ShOK S) (sh2 : ShOK S2) (hne : S ≠ S2) (hS : Std h.2.2) (s : Shw w S2 h) (hq : ∀ g, Fr [S + 1, S + 2, S + 3] [] h g → Shw w S g → F g) : ∀ (n i : Nat) (g : Hp), i + n = 16 → Fr [S + 1, S + 2, S + 3] [] h g → CopInv S S2 h g i →
    E mX8_copyFrom d 0 0 2 [(0, .ref S), (1, .ref S2), (2, .int (nI i))] [] g (Qv F) X := by
  have hcl : ∀ j, j = 1 ∨ j = 2 ∨ j = 3 → ∀ j', j' = 1 ∨ j' = 2 ∨ j' = 3 → S2 + j ≠ S + j' := fun j hj j' hj' => by
    have h1 := sh.2.2.2.2
    have h2 := sh2.2.2.2.2
    omega
  have hin : ∀ j, j = 1 ∨ j = 2 ∨ j = 3 → ∀ k, inW [S + 1, S + 2, S + 3] [] (S2 + j) k = false := fun j hj k => by
    have q1 := hcl j hj 1 (Or.inl rfl)
    have q2 := hcl j hj 2 (Or.inr (Or.inl rfl))
    have q3 := hcl j hj 3 (Or.inr (Or.inr rfl))
    simp only [inW, Bool.or_eq_false_iff, List.contains_eq_mem, decide_eq_false_iff_not, List.mem_cons, List.not_mem_nil, or_false, not_or]
    exact ⟨⟨q1, q2, q3⟩, fun z => z⟩
  intro n
  induction n with
  | zero =>
    intro i g e fr I
    have : i = 16 := by omega
    subst this
    refine sgX8_copyFrom_2 sh sh2 _ (Nat.zero_le _) (fr.sd hS) ⟨fun _ => hq g fr fun m hm b => ?_, fun z => absurd (by decide) z⟩
    obtain ⟨i1, i2, i3⟩ := I m hm
    rw [i1, i2, i3]
    exact s m hm b
  | succ n ih =>
    intro i g e fr I
    have hi : i < 16 := by omega
    refine sgX8_copyFrom_2 sh sh2 _ (Nat.zero_le _) (fr.sd hS) ⟨fun z => absurd z (nI_ge (b := 16) hi (by omega)), fun _ => ⟨vin hi, vin hi, vin hi, vin hi, vin hi, vin hi, ?_⟩⟩
    rw [nI_1, nI_clamp (by omega)]
    have g1 := fr.l (S2 + 1) i (hin 1 (by omega) i)
    have g2 := fr.l (S2 + 2) i (hin 2 (by omega) i)
    have g3 := fr.l (S2 + 3) i (hin 3 (by omega) i)
    refine ih (i + 1) _ (by omega) (Fr.tr (Fr.tr (Fr.tr fr sh_f1) sh_f2) sh_f3) fun m hm => ?_
    by_cases hmi : m = i
    · subst hmi
      refine ⟨?_, ?_, ?_⟩
      · rw [hL_c (by omega), hL_c (by omega), hL_k, g1]
      · rw [hL_c (c := S + 3) (by omega), hL_k, hL_c (hcl 2 (by omega) 1 (by omega)), g2]
      · rw [hL_k, hL_c (hcl 3 (by omega) 2 (by omega)), hL_c (hcl 3 (by omega) 1 (by omega)), g3]
    · obtain ⟨i1, i2, i3⟩ := I m (by omega)
      refine ⟨?_, ?_, ?_⟩
      · rw [hL_c (by omega), hL_c (by omega), hL_j hmi, i1]
      · rw [hL_c (c := S + 3) (by omega), hL_j hmi, hL_c (by omega), i2]
      · rw [hL_j hmi, hL_c (by omega), hL_c (by omega), i3]
theorem ok_copyFrom {F : Hp → Prop} {S2 : Nat} (sh : ShOK S) (sh2 : ShOK S2) (hne : S ≠ S2) (hd : 1 ≤ d) (hS : Std h.2.2) (s : Shw w S2 h) (hq : ∀ g, Fr [S + 1, S + 2, S + 3] [] h g → Shw w S g → F g) : OKv d mX8_copyFrom [.ref S, .ref S2] h F X :=
  enX8_copyFrom sh sh2 hd hS (lp_copyFrom sh sh2 hne hS s hq 16 0 h (by omega) Fr.rf fun m hm => absurd hm (by omega))
end SHEETC
