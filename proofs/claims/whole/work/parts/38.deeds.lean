/-! the class's Deeds, read -/
theorem al_gone {σ : Hp} {d : Nat} (h : d < nD σ) : al σ d = decide (σ.1 105 d = 0) := by simp [al, h]
section DEEDS
variable {σ h : Hp} {d : Nat} {X : String → Hp → Prop}
theorem CD.n (c : CD σ h) : h.1 8 1 = nI (nD σ) := c.1
theorem CD.hand (c : CD σ h) {a : Nat} (ha : a < nD σ) : h.1 13 a = (if al σ a then σ.1 102 a else -1) ∧ h.1 14 a = (if al σ a then σ.1 103 a else -1) := c.2.2.1 a ha
theorem CD.of (c : CD σ h) {k : Nat} (hk : k < 20) (b : Nat) : hb (h.2.1 17 k) b = (al σ b && sol σ b && isof σ b (nI k)) := c.2.2.2.1 k hk b
theorem CD.sol (c : CD σ h) (b : Nat) : hb (h.2.1 8 11) b = (al σ b && sol σ b) := c.2.2.2.2.1 b
theorem CD.dbt (c : CD σ h) (b : Nat) : hb (h.2.1 8 12) b = (decide (b < nD σ) && dbt σ b) := c.2.2.2.2.2.1 b
theorem CD.gone (c : CD σ h) (b : Nat) : hb (h.2.1 8 13) b = (decide (b < nD σ) && !al σ b) := c.2.2.2.2.2.2.1 b
theorem CD.apart (c : CD σ h) {a : Nat} (ha : a < 60) (b : Nat) : hb (h.2.1 15 a) b = (decide (a < nD σ) && decide (b < nD σ) && !decide (a = b) && apt σ a b) := c.2.2.2.2.2.2.2.1 a ha b
theorem CD.bar (c : CD σ h) {a : Nat} (ha : a < 60) (b : Nat) : hb (h.2.1 16 a) b = (decide (b < 60) && bar σ a b) := c.2.2.2.2.2.2.2.2.1 a ha b
theorem ok_standing {F : Int64 → Hp → Prop} (hd : 2 ≤ d) (hS : Std h.2.2) (V : VS σ) (c : CD σ h) (hq : ∀ r, (∀ k, hb r k = stn σ k) → F r h) : OKl d mX0_standing [.ref 8] h F X :=
  enX0_standing hd hS (ok_only (Nat.le_refl _) hS (hq _ fun k => by
    have hD := V.d.2
    rw [c.n, hb_and, hb_and, hb_low (by omega)]
    by_cases hk : k < nD σ
    · rw [hb_not (by omega), hb_not (by omega), c.gone, c.dbt]
      simp [hk, stn]
    · have : al σ k = false := by simp [al, hk]
      simp [hk, stn, this]))
theorem ok_setOf {F : Int64 → Hp → Prop} {x : Int32} (hd : 1 ≤ d) (hS : Std h.2.2) (c : CD σ h) (hx : x = -1 ∨ ∃ j, j < 20 ∧ x = nI j) (hq : ∀ r, (∀ k, hb r k = (!decide (x = -1) && (al σ k && sol σ k && isof σ k x))) → F r h) : OKl d mX0_setOf [.ref 8, .int x] h F X := by
  refine enX0_setOf x hd hS ⟨fun q => hq _ fun k => ?_, fun q => ⟨fun q2 => ?_, fun q2 => ?_⟩⟩
  · obtain e | ⟨j, hj, e⟩ := hx
    · rw [hb_0]; simp [e]
    · exact absurd q (by rw [e]; exact nI_pos (by omega))
  · obtain e | ⟨j, hj, e⟩ := hx
    · exact absurd (by rw [e]; decide) q
    · exact absurd q2 (by rw [e]; exact nI_ge (a := j) (b := 20) hj (by omega))
  · obtain e | ⟨j, hj, e⟩ := hx
    · exact absurd (by rw [e]; decide) q
    · refine ⟨by rw [e]; exact vin hj, hq _ fun k => ?_⟩
      have hne : ¬ nI j = -1 := fun z => nI_pos (n := j) (by omega) (by rw [z]; decide)
      rw [e, nI_clamp (by omega), c.of hj]
      simp [hne]
theorem hand_of (V : VS σ) (c : CD σ h) {a : Nat} (ha : a < nD σ) : (h.1 13 a = -1 ∨ ∃ j, j < 20 ∧ h.1 13 a = nI j) ∧ (h.1 14 a = -1 ∨ ∃ j, j < 20 ∧ h.1 14 a = nI j) := by
  have hh := V.h.2
  obtain ⟨e1, e2⟩ := c.hand ha
  rw [e1, e2]
  cases hal : al σ a
  · exact ⟨Or.inl rfl, Or.inl rfl⟩
  · obtain ⟨z1, z2⟩ | ⟨j, k, hj, hk, z1, z2⟩ := (V.de ha).2.2.1
    · exact ⟨Or.inl z1, Or.inl z2⟩
    · exact ⟨Or.inr ⟨j, by omega, z1⟩, Or.inr ⟨k, by omega, z2⟩⟩
theorem hand_n1 (V : VS σ) {a : Nat} (ha : a < nD σ) : decide (σ.1 103 a = -1) = decide (σ.1 102 a = -1) := by
  have hh := V.h.2
  obtain ⟨z1, z2⟩ | ⟨j, k, hj, hk, z1, z2⟩ := (V.de ha).2.2.1
  · rw [z1, z2]
  · have n1 : ¬ nI j = -1 := fun z => nI_pos (n := j) (by omega) (by rw [z]; decide)
    have n2 : ¬ nI k = -1 := fun z => nI_pos (n := k) (by omega) (by rw [z]; decide)
    rw [z1, z2, decide_eq_false n1, decide_eq_false n2]
theorem hb_n1 {j : Nat} (hj : j < 64) {k : Nat} (hk : k < 64) : hb (((1 : Int64) <<< ((nI j).toInt64 &&& 63)) ^^^ (-1 : Int64)) k = !decide (k = j) := by rw [hb_not hk, hb_only hj]
theorem ok_oneWith {F : Int64 → Hp → Prop} {a : Nat} (hd : 2 ≤ d) (hS : Std h.2.2) (V : VS σ) (c : CD σ h) (ha : a < nD σ) (hq : ∀ r, (∀ k, hb r k = (al σ a && al σ k && one σ a k && !decide (k = a))) → F r h) : OKl d mX0_oneWith [.ref 8, .int (nI a)] h F X := by
  have hD := V.d.2
  have hh := hand_of V c ha
  refine enX0_oneWith (nI a) hd hS ⟨vin (by omega), ?_⟩
  rw [nI_clamp (by omega)]
  refine ok_setOf (Nat.le_refl _) hS c hh.1 fun r1 h1 => ⟨vin (by omega), ok_setOf (Nat.le_refl _) hS c hh.2 fun r2 h2 => ok_only (Nat.le_refl _) hS (hq _ fun k => ?_)⟩
  by_cases hk : k < 64
  · rw [hb_and, hb_or, hb_n1 (by omega) hk, h1, h2, (c.hand ha).1, (c.hand ha).2]
    cases hal : al σ a
    · simp
    · simp only [if_true, Bool.true_and, one, hand_n1 V ha]
      cases e1 : decide (σ.1 102 a = -1) <;> simp [sol, e1] <;> cases al σ k <;> cases decide (σ.1 102 k = -1) <;> simp [sol]
  · have : al σ k = false := by
      simp [al]; omega
    rw [hb_big (by omega), this]
    simp
theorem ok_barredFrom {F : Int64 → Hp → Prop} {a : Nat} (hd : 3 ≤ d) (hS : Std h.2.2) (V : VS σ) (c : CD σ h) (hal : al σ a = true) (hq : ∀ r, (∀ k, hb r k = (al σ k && brd σ a k && !decide (k = a))) → F r h) : OKl d mX0_barredFrom [.ref 8, .int (nI a)] h F X := by
  have hD := V.d.2
  have ha := al_lt hal
  have fin : ∀ r3 k, (∀ k, hb r3 k = (al σ a && al σ k && one σ a k && !decide (k = a))) → ∀ x : Int64, hb x k = ((hb (h.2.1 15 a) k || hb (h.2.1 16 a) k) || (sol σ a && (al σ k && sol σ k))) → hb (((x &&& (r3 ^^^ (-1 : Int64))) &&& (((1 : Int64) <<< ((nI a).toInt64 &&& 63)) ^^^ (-1 : Int64))) &&& ((h.2.1 8 13) ^^^ (-1 : Int64))) k = (al σ k && brd σ a k && !decide (k = a)) := by
    intro r3 k h3 x hx
    by_cases hk : k < 64
    · rw [hb_and, hb_and, hb_and, hb_not hk, hb_not hk, hb_not hk, hb_only (by omega), h3, hx, c.apart (by omega), c.bar (by omega), c.gone, hal]
      cases hak : al σ k
      · by_cases hkD : k < nD σ
        · simp [hkD]
        · cases hb2 : (decide (k < 60) && bar σ a k)
          · simp [hkD]
          · simp only [Bool.and_eq_true, decide_eq_true_eq] at hb2
            exact absurd (V.br (by omega) hb2.1 hb2.2).2.2 hkD
      · have hkD := al_lt hak
        have h60 : k < 60 := by omega
        by_cases hka : k = a
        · simp [hka]
        · simp only [brd, ha, hkD, h60, hka, Ne.symm hka, decide_true, decide_false, Bool.not_false, Bool.not_true, Bool.true_and, Bool.and_true]
          cases one σ a k <;> simp
    · have : al σ k = false := by
        simp [al]; omega
      rw [hb_big (by omega), this]
      simp
  refine enX0_barredFrom (nI a) hd hS ⟨vin (by omega), vin (by omega), ok_has (Nat.le_of_ble_eq_true rfl) hS (by omega) ⟨fun q => ?_, fun q => ?_⟩⟩
  · rw [nI_clamp (by omega)]
    refine ok_oneWith (Nat.le_refl _) hS V c ha fun r3 h3 => ok_only (Nat.le_of_ble_eq_true rfl) hS (hq _ fun k => fin r3 k h3 _ ?_)
    have := bI_0.mp q
    rw [c.sol, hal, Bool.true_and] at this
    rw [hb_or, this]
    simp
  · rw [nI_clamp (by omega)]
    refine ok_oneWith (Nat.le_refl _) hS V c ha fun r3 h3 => ok_only (Nat.le_of_ble_eq_true rfl) hS (hq _ fun k => fin r3 k h3 _ ?_)
    have := bI_n0.mp q
    rw [c.sol, hal, Bool.true_and] at this
    rw [hb_or, hb_or, this, c.sol]
    simp
end DEEDS
