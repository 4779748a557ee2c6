/-! the class's Deeds, written -/
section DEEDSW
variable {σ h : Hp} {d : Nat} {X : String → Hp → Prop}
def hset (x y : Int32) : Bool := !decide (x = -1) && !decide (y = -1)
/-- what solveBy leaves -/
def SolvedBy (a : Nat) (x y : Int32) (h h' : Hp) : Prop :=
  Fr [13, 14, 17] [(8, 11)] h h' ∧ (∀ k, h'.1 13 k = if k = a then x else h.1 13 k) ∧ (∀ k, h'.1 14 k = if k = a then y else h.1 14 k) ∧
  (∀ k, k < 20 → ∀ b, hb (h'.2.1 17 k) b = if b = a then hset x y && (decide (x = nI k) || decide (y = nI k)) else hb (h.2.1 17 k) b) ∧
  (∀ b, hb (h'.2.1 8 11) b = if b = a then hset x y else hb (h.2.1 8 11) b)
def hnd (x y : Int32) : Prop := (x = -1 ∧ y = -1) ∨ ∃ j k, j < 20 ∧ k < 20 ∧ x = nI j ∧ y = nI k
theorem hb_rest {x r : Int64} {a : Nat} (ha : a < 64) (hr : r = ((1 : Int64) <<< ((nI a).toInt64 &&& 63)) ^^^ (-1 : Int64)) (b : Nat) : hb (x &&& r) b = (hb x b && !decide (b = a)) := by
  by_cases hb' : b < 64
  · rw [hr, hb_and, hb_n1 ha hb']
  · rw [hb_big (by omega), hb_big (x := x) (by omega)]; rfl
theorem hb_put {x : Int64} {a : Nat} (ha : a < 64) (b : Nat) : hb (x ||| ((1 : Int64) <<< ((nI a).toInt64 &&& 63))) b = (hb x b || decide (b = a)) := by
  rw [hb_or, hb_only ha]
theorem lp_solveBy {F : Hp → Prop} {a : Nat} {x y : Int32} {r : Int64} (hd : 1 ≤ d) (hS : Std h.2.2) (ha : a < 60) (hxy : hnd x y) (hr : r = ((1 : Int64) <<< ((nI a).toInt64 &&& 63)) ^^^ (-1 : Int64)) (hq : ∀ h', SolvedBy a x y h h' → F h') : ∀ (n i : Nat) (g : Hp), i + n = 20 → Fr [17] [] h g → (∀ k, k < 20 → g.2.1 17 k = if k < i then h.2.1 17 k &&& r else h.2.1 17 k) →
    E mX0_solveBy d 0 0 13 [(0, .ref 8), (1, .int (nI a)), (2, .int x), (3, .int y), (4, .long r), (6, .int (nI i))] [] g (Qv F) X := by
  intro n
  induction n with
  | zero =>
    intro i g e fr hg
    have hi : i = 20 := by omega
    subst hi
    have hSg := fr.sd hS
    have hg' : ∀ k, k < 20 → ∀ b, hb (g.2.1 17 k) b = (hb (h.2.1 17 k) b && !decide (b = a)) := fun k hk b => by
      rw [hg k hk, if_pos hk, hb_rest (by omega) hr]
    have g11 : ∀ b, hb (g.2.1 8 11 &&& r) b = (hb (h.2.1 8 11) b && !decide (b = a)) := fun b => by
      rw [hb_rest (by omega) hr, fr.l 8 11]
    have g13 : ∀ k, g.1 13 k = h.1 13 k := fun k => fr.i 13 k
    have g14 : ∀ k, g.1 14 k = h.1 14 k := fun k => fr.i 14 k
    have fr1 : Fr [13, 14, 17] [(8, 11)] h (hI (hI (hL g 8 11 (g.2.1 8 11 &&& r)) 13 a x) 14 a y) := ((fr.mono.tr Fr.pL).tr Fr.pI).tr Fr.pI
    refine sgX0_solveBy_13 _ _ _ _ _ hd hSg ⟨fun _ => ⟨vin (by omega), vin (by omega), ?_⟩, fun q => absurd (by decide) q⟩
    rw [nI_clamp (by omega)]
    obtain ⟨e1, e2⟩ | ⟨j, k, hj, hk, e1, e2⟩ := hxy
    · have hs : hset x y = false := by rw [hset, e1]; rfl
      have fin : F (hI (hI (hL g 8 11 (g.2.1 8 11 &&& r)) 13 a x) 14 a y) := by
        refine hq _ ⟨fr1, fun k => ?_, fun k => ?_, fun k hk b => ?_, fun b => ?_⟩
        · rw [hI_c (by decide)]
          by_cases hka : k = a
          · rw [hka, hI_k, if_pos rfl]
          · rw [hI_j hka, if_neg hka]; exact g13 k
        · by_cases hka : k = a
          · rw [hka, hI_k, if_pos rfl]
          · rw [hI_j hka, hI_c (by decide), if_neg hka]; exact g14 k
        · have : hb ((hI (hI (hL g 8 11 (g.2.1 8 11 &&& r)) 13 a x) 14 a y).2.1 17 k) b = hb (g.2.1 17 k) b := by
            rw [hI_l, hI_l, hL_c (by decide)]
          rw [this, hg' k hk, hs]
          by_cases hba : b = a <;> simp [hba]
        · have : hb ((hI (hI (hL g 8 11 (g.2.1 8 11 &&& r)) 13 a x) 14 a y).2.1 8 11) b = hb (g.2.1 8 11 &&& r) b := by
            rw [hI_l, hI_l, hL_k]
          rw [this, g11, hs]
          by_cases hba : b = a <;> simp [hba]
      exact ⟨fun _ => fin, fun q => absurd e1 q⟩
    · have n1 : ¬ x = -1 := fun z => nI_pos (n := j) (by omega) (by rw [← e1, z]; decide)
      have n2 : ¬ y = -1 := fun z => nI_pos (n := k) (by omega) (by rw [← e2, z]; decide)
      have hs : hset x y = true := by rw [hset, decide_eq_false n1, decide_eq_false n2]; rfl
      refine ⟨fun q => absurd q n1, fun _ => ⟨fun q => absurd q n2, fun _ => ⟨by rw [e1]; exact vin hj, ok_only hd (fr1.sd hS) ⟨by rw [e1]; exact vin hj, by rw [e2]; exact vin hk, ok_only hd (fr1.sd hS) ⟨by rw [e2]; exact vin hk, ok_only hd (fr1.sd hS) ?_⟩⟩⟩⟩⟩
      have c1 : x.toNatClampNeg = j := by rw [e1]; exact nI_clamp (by omega)
      have c2 : y.toNatClampNeg = k := by rw [e2]; exact nI_clamp (by omega)
      rw [c1, c2]
      have ex : ∀ i, i < 20 → (x = nI i ↔ i = j) := fun i hi => by rw [e1, nI_eq (by omega) (by omega)]; exact eq_comm
      have ey : ∀ i, i < 20 → (y = nI i ↔ i = k) := fun i hi => by rw [e2, nI_eq (by omega) (by omega)]; exact eq_comm
      refine hq _ ⟨((fr1.tr Fr.pL).tr Fr.pL).tr Fr.pL, fun k => ?_, fun k => ?_, fun i hi b => ?_, fun b => ?_⟩
      · show (hI (hI (hL g 8 11 (g.2.1 8 11 &&& r)) 13 a x) 14 a y).1 13 k = _
        rw [hI_c (by decide)]
        by_cases hka : k = a
        · rw [hka, hI_k, if_pos rfl]
        · rw [hI_j hka, if_neg hka]; exact g13 k
      · show (hI (hI (hL g 8 11 (g.2.1 8 11 &&& r)) 13 a x) 14 a y).1 14 k = _
        by_cases hka : k = a
        · rw [hka, hI_k, if_pos rfl]
        · rw [hI_j hka, hI_c (by decide), if_neg hka]; exact g14 k
      · rw [hL_c (by decide)]
        have e17 : ∀ q, (hI (hI (hL g 8 11 (g.2.1 8 11 &&& r)) 13 a x) 14 a y).2.1 17 q = g.2.1 17 q := fun q => by rw [hI_l, hI_l, hL_c (by decide)]
        have ex' : decide (x = nI i) = decide (i = j) := decide_eq_decide.mpr (ex i hi)
        have ey' : decide (y = nI i) = decide (i = k) := decide_eq_decide.mpr (ey i hi)
        rw [hs, Bool.true_and, ex', ey']
        by_cases hik : i = k
        · subst hik
          rw [hL_k, hb_put (by omega)]
          by_cases hij : i = j
          · subst hij
            rw [hL_k, hb_put (by omega), hg' _ hi]
            by_cases hba : b = a <;> simp [hba]
          · rw [hL_j hij, e17, hg' _ hi]
            by_cases hba : b = a <;> simp [hba]
        · rw [hL_j hik]
          by_cases hij : i = j
          · subst hij
            rw [hL_k, hb_put (by omega), hg' _ hi]
            by_cases hba : b = a <;> simp [hba]
          · rw [hL_j hij, e17, hg' _ hi]
            by_cases hba : b = a <;> simp [hba, hik, hij]
      · rw [hL_k, hb_put (by omega), hs]
        rw [hL_c (by decide), hI_l, hI_l, hL_k, g11]
        by_cases hba : b = a <;> simp [hba]
  | succ n ih =>
    intro i g e fr hg
    have hi : i < 20 := by omega
    refine sgX0_solveBy_13 _ _ _ _ _ hd (fr.sd hS) ⟨fun q => absurd q (nI_ge (a := i) (b := 20) hi (by omega)), fun _ => ⟨vin hi, vin hi, ?_⟩⟩
    rw [nI_1, nI_clamp (by omega)]
    refine ih (i + 1) _ (by omega) (fr.tr Fr.pL) fun k hk => ?_
    by_cases hki : k = i
    · subst hki
      rw [hL_k, if_pos (by omega), hg _ hi, if_neg (by omega)]
    · rw [hL_j hki, hg k hk]
      by_cases hlt : k < i
      · rw [if_pos hlt, if_pos (by omega)]
      · rw [if_neg hlt, if_neg (by omega)]
theorem ok_solveBy {F : Hp → Prop} {a : Nat} {x y : Int32} (hd : 2 ≤ d) (hS : Std h.2.2) (ha : a < 60) (hxy : hnd x y) (hq : ∀ h', SolvedBy a x y h h' → F h') : OKv d mX0_solveBy [.ref 8, .int (nI a), .int x, .int y] h F X :=
  enX0_solveBy (nI a) x y hd hS (ok_only (Nat.le_refl _) hS (lp_solveBy (Nat.le_refl _) hS ha hxy rfl hq 20 0 h (by omega) Fr.rf fun k _ => by rw [if_neg (by omega)]))
end DEEDSW
