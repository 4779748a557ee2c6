/-! the class's tallies -/
section TALLY
variable {σ h : Hp} {d S : Nat} {X : String → Hp → Prop} {w : Nat → Nat → Int32} {par : Nat → Int32}
theorem shw_b (s : Shw w S h) {m : Nat} (hm : m < 16) {k : Nat} (hk : k < 60) : hb (h.2.1 (S + 1) m) k = lkd (w k m) ∧ hb (h.2.1 (S + 2) m) k = decide (w k m = 2) := by
  obtain ⟨q1, q2, _⟩ := s m hm k
  simp only [decide_eq_true hk, Bool.true_and] at q1 q2
  exact ⟨q1, q2⟩
theorem lkd_12 {x : Int32} (hx : lkd x = true) : x = 1 ∨ x = 2 := by
  simpa only [lkd, Bool.or_eq_true, decide_eq_true_eq] using hx
theorem otc_off {x y : Int32} (h : lkd x = false ∨ lkd y = false) : otc x y = 3 := by
  rw [otc]
  obtain e | e := h
  · rw [e]; rfl
  · rw [e, Bool.and_false]; rfl
theorem otc_1 {y : Int32} (hy : lkd y = true) : (otc 1 y).toNatClampNeg = if y = 2 then 1 else 0 := by
  obtain rfl | rfl := lkd_12 hy <;> decide
theorem otc_2 {y : Int32} (hy : lkd y = true) : (otc 2 y).toNatClampNeg = if y = 2 then 2 else 1 := by
  obtain rfl | rfl := lkd_12 hy <;> decide
theorem sel_3 (y : Nat) : sel 3 y = true := rfl
theorem sel_n {x y : Nat} (h : x ≠ 3) : sel x y = decide (x = y) := by rw [sel, decide_eq_false h, Bool.false_or]
/-- parents' rows -/
def PR (σ : Hp) (par : Nat → Int32) (g : Hp) : Prop := ∀ m, m < nM σ → g.1 37 m = par m ∧ (par m = -1 ∨ ∃ p, p < nM σ ∧ par m = nI p)
theorem ok_matching {F : Int64 → Hp → Prop} {m v a : Nat} (sh : ShOK S) (hd : 2 ≤ d) (hS : Std h.2.2) (hM : nM σ ≤ 16) (pr : PR σ par h) (s : Shw w S h) (hs : h.2.2.1 34 2 = some S) (hm : m < nM σ) (hv : v < 4) (ha : a < 60) (h3 : par m = -1 → v = 3)
    (hq : ∀ r, (∀ b, b < 60 → hb r b = sel v (vn w par m a b)) → F r h) : OKl d mX3_matching [.ref 34, .int (nI m), .int (nI v), .int (nI a)] h F X := by
  obtain ⟨p1, p2⟩ := pr m hm
  have all : sel v 0 = true ∨ v = 3 → v = 3 → E mX3_matching 1 0 0 19 [] [] h (Ql F) X := fun _ e => sgX3_matching_19 sh (Nat.le_refl _) hS (hq _ fun b hb' => by rw [hb_m1 b (by omega), e, sel_3])
  refine enX3_matching sh _ _ _ hd hS ⟨vin (by omega), fun z => all (Or.inr (nI_inj (b := 3) (by omega) (by omega) z)) (nI_inj (b := 3) (by omega) (by omega) z), fun z => ?_⟩
  have hv3 : v ≠ 3 := fun q => z (by rw [q]; rfl)
  rw [nI_clamp (by omega), p1]
  refine ⟨fun z2 => absurd (h3 z2) hv3, fun z2 => ?_⟩
  obtain p2 | ⟨p, hp, p2⟩ := p2
  · exact absurd p2 z2
  have ev : ∀ b, vn w par m a b = on w p a b := fun b => by rw [vn, ovr, if_neg z2, p2, nI_clamp (by omega)]; rfl
  rw [p2, nI_clamp (by omega)]
  have no : (∀ b, b < 60 → sel v (vn w par m a b) = false) → F 0 h := fun hz => hq 0 fun b hb' => by rw [hb_0, hz b hb']
  refine ⟨hs, vin (by omega), ok_has (by omega) hS (by omega) ⟨fun z3 => no fun b hb' => ?_, fun z3 => ⟨hs, vin (by omega), ok_has (by omega) hS (by omega) ?_⟩⟩⟩
  · have := bI_0.mp z3
    rw [(shw_b s (by omega) ha).1] at this
    rw [sel_n hv3, ev, on, otc_off (Or.inl this)]
    exact decide_eq_false hv3
  · have l1 := bI_n0.mp z3
    rw [(shw_b s (by omega) ha).1] at l1
    have fin : ∀ (x : Int32) (y : Nat), (y = 1 ∨ y = 2) → (∀ b, on w p a b = if lkd (w b p) then (if w b p = 2 then y else y - 1) else 3) → nI v - x = nI v - nI (y - 1) →
        E mX3_matching 1 0 0 66 [(0, .ref 34), (4, .int (nI p))] [.int (nI v - x)] h (Ql F) X := fun x y hy ho ex => by
      rw [ex]
      refine sgX3_matching_66 sh _ _ (Nat.le_refl _) hS ⟨fun z4 => ⟨hs, vin (by omega), hs, vin (by omega), hq _ fun b hb' => ?_⟩, fun z4 => ⟨fun z5 => ⟨hs, vin (by omega), hs, vin (by omega), hq _ fun b hb' => ?_⟩, fun z5 => no fun b hb' => ?_⟩⟩
      · have vy : v = y := by
          obtain rfl | rfl := hy
          · have h5 : v = 0 ∨ v = 1 ∨ v = 2 := by omega
            obtain rfl | rfl | rfl := h5 <;> first | rfl | exact absurd z4 (by decide)
          · have h5 : v = 0 ∨ v = 1 ∨ v = 2 := by omega
            obtain rfl | rfl | rfl := h5 <;> first | rfl | exact absurd z4 (by decide)
        rw [nI_clamp (by omega), hb_and, (shw_b s (by omega) hb').1, (shw_b s (by omega) hb').2, sel_n hv3, ev, ho b, vy]
        cases lkd (w b p)
        · rw [Bool.false_and, if_neg (by decide)]; exact (decide_eq_false (by omega)).symm
        · rw [Bool.true_and, if_pos rfl]
          by_cases e2 : w b p = 2
          · rw [if_pos e2, decide_eq_true e2]; exact (decide_eq_true rfl).symm
          · rw [if_neg e2, decide_eq_false e2]; exact (decide_eq_false (by omega)).symm
      · have vy : v = y - 1 := by
          obtain rfl | rfl := hy
          · have h5 : v = 0 ∨ v = 1 ∨ v = 2 := by omega
            obtain rfl | rfl | rfl := h5 <;> first | rfl | exact absurd z5 (by decide)
          · have h5 : v = 0 ∨ v = 1 ∨ v = 2 := by omega
            obtain rfl | rfl | rfl := h5 <;> first | rfl | exact absurd z5 (by decide)
        rw [nI_clamp (by omega), hb_and, hb_not (by omega), (shw_b s (by omega) hb').1, (shw_b s (by omega) hb').2, sel_n hv3, ev, ho b, vy]
        cases lkd (w b p)
        · rw [Bool.false_and, if_neg (by decide)]; exact (decide_eq_false (by omega)).symm
        · rw [Bool.true_and, if_pos rfl]
          by_cases e2 : w b p = 2
          · rw [if_pos e2, decide_eq_true e2]; exact (decide_eq_false (by omega)).symm
          · rw [if_neg e2, decide_eq_false e2]; exact (decide_eq_true rfl).symm
      · rw [sel_n hv3, ev, ho b]
        refine decide_eq_false fun q => ?_
        have : v = y ∨ v = y - 1 := by
          revert q
          split
          · split <;> omega
          · omega
        obtain rfl | rfl := hy
        · obtain rfl | rfl := this
          · exact z4 (by decide)
          · exact z5 (by decide)
        · obtain rfl | rfl := this
          · exact z4 (by decide)
          · exact z5 (by decide)
    rw [(shw_b s (by omega) ha).2]
    refine ⟨fun z4 => ?_, fun z4 => ?_⟩
    · have e1 : w a p = 1 := (lkd_12 l1).resolve_right (of_decide_eq_false (bI_0.mp z4))
      have := fin 0 1 (Or.inl rfl) (fun b => by
        rw [on, e1]
        cases hl : lkd (w b p)
        · rw [otc_off (Or.inr hl)]; rfl
        · rw [otc_1 hl]; rfl) rfl
      rw [Int32.sub_zero] at this
      exact this
    · have e1 : w a p = 2 := of_decide_eq_true (bI_n0.mp z4)
      exact fin 1 2 (Or.inr rfl) (fun b => by
        rw [on, e1]
        cases hl : lkd (w b p)
        · rw [otc_off (Or.inr hl)]; rfl
        · rw [otc_2 hl]; rfl) rfl
theorem ok_tallyPairs {F : Hp → Prop} {t l : Nat} {x TH : Int64} {q : Bool} (hd : 2 ≤ d) (hS : Std h.2.2) (ht : t + 3 < 512) (hl : l = if q then 1 else 0)
    (hq : ∀ g, Fr [42] [] h g → (∀ k, g.1 42 k = if k = t + l then h.1 42 k + nI (cntb (x &&& (TH ^^^ (-1)))) else if k = t + l + 1 then h.1 42 k + nI (cntb (x &&& TH)) else if k = t + 3 then h.1 42 k + (nI (cntb (x &&& (TH ^^^ (-1)))) + nI (cntb (x &&& TH))) else h.1 42 k) → F g) :
    OKv d mX3_tallyPairs [.ref 34, .int (nI t), .int (bI q), .long x, .long TH] h F X := by
  have fin : ∀ l : Nat, l < 2 → (∀ g, Fr [42] [] h g → (∀ k, g.1 42 k = if k = t + l then h.1 42 k + nI (cntb (x &&& (TH ^^^ (-1)))) else if k = t + l + 1 then h.1 42 k + nI (cntb (x &&& TH)) else if k = t + 3 then h.1 42 k + (nI (cntb (x &&& (TH ^^^ (-1)))) + nI (cntb (x &&& TH))) else h.1 42 k) → F g) →
      E mX3_tallyPairs 1 0 0 31 [(0, .ref 34), (1, .int (nI t)), (7, .int (nI (cntb (x &&& TH)))), (8, .int (nI (cntb (x &&& (TH ^^^ (-1))))))] [.int (nI l)] h (Qv F) X := fun l hl hq => by
    refine sgX3_tallyPairs_31 _ _ _ _ (Nat.le_refl _) hS ?_
    rw [lit_nI 1, lit_nI 3, nI_add, nI_add, nI_add, nI_clamp (by omega), nI_clamp (by omega), nI_clamp (by omega)]
    refine ⟨vin (by omega), vin (by omega), vin (by omega), vin (by omega), vin (by omega), vin (by omega), hq _ (Fr.tr Fr.pI (Fr.tr Fr.pI Fr.pI)) fun k => ?_⟩
    rw [hI_if, hI_j (h := hI h 42 (t + l) _) (by omega), hI_j (h := h) (by omega), hI_if, hI_j (h := h) (by omega), hI_if, nI_add]
    by_cases h1 : k = t + l
    · rw [if_neg (by omega), if_neg (by omega), if_pos h1, if_pos h1, h1]
    · rw [if_neg h1, if_neg h1]
      by_cases h2 : k = t + l + 1
      · rw [if_neg (by omega), if_pos h2, if_pos h2, h2]
      · rw [if_neg h2, if_neg h2]
        by_cases h3 : k = t + 3
        · rw [if_pos h3, if_pos h3, h3]
        · rw [if_neg h3, if_neg h3]
  refine enX3_tallyPairs _ _ _ _ hd hS (ok_bitCount (Nat.le_refl _) hS (ok_bitCount (Nat.le_refl _) hS ⟨fun z => fin 0 (by omega) ?_, fun z => fin 1 (by omega) ?_⟩))
  · rw [hl, bI_0.mp z] at hq; exact hq
  · rw [hl, bI_n0.mp z] at hq; exact hq
end TALLY
