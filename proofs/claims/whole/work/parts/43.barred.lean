/-! distance, what is apart, and what is told barred -/
section BARRED
variable {σ h : Hp} {d : Nat} {X : String → Hp → Prop}
theorem ok_distanceC {F : Int32 → Hp → Prop} {p q : Nat} (hd : 2 ≤ d) (hS : Std h.2.2) (c : CP σ h) (hp : p < nP σ) (hq' : q < nP σ) (hP : nP σ ≤ 30) (hq : F (dst σ p q) h) : OKi d mX2_distance [.ref 1, .int (nI p), .int (nI q)] h F X := by
  refine enX2_distance (nI p) (nI q) hd hS ⟨vin (by omega), vin (by omega), vin (by omega), vin (by omega), ?_⟩
  rw [nI_clamp (by omega), nI_clamp (by omega), (c.2 p hp).1, (c.2 p hp).2.1, (c.2 q hq').1, (c.2 q hq').2.1]
  exact hq
theorem ok_areApart {F : Int32 → Hp → Prop} {a b : Nat} (hd : 3 ≤ d) (hS : Std h.2.2) (cp : CP σ h) (hP : nP σ ≤ 30) (ha : a < 60) (hbb : b < 60)
    (ca : h.1 9 a = σ.1 98 a ∧ h.1 10 a = σ.1 99 a ∧ h.1 11 a = σ.1 100 a) (cb : h.1 9 b = σ.1 98 b ∧ h.1 10 b = σ.1 99 b ∧ h.1 11 b = σ.1 100 b)
    (pa : σ.1 98 a = nI (plc σ a) ∧ plc σ a < nP σ) (pb : σ.1 98 b = nI (plc σ b) ∧ plc σ b < nP σ) (hq : F (bI (apt σ a b)) h) : OKi d mX0_areApart [.ref 8, .int (nI a), .int (nI b)] h F X := by
  refine enX0_areApart (nI a) (nI b) hd hS ⟨vin ha, vin hbb, vin hbb, vin ha, vin ha, vin hbb, ?_⟩
  rw [nI_clamp (by omega), nI_clamp (by omega), ca.1, cb.1, pa.1, pb.1, ca.2.1, ca.2.2, cb.2.1, cb.2.2]
  refine ok_distanceC (Nat.le_refl _) hS cp pa.2 pb.2 hP ⟨fun q => ?_, fun q => ?_⟩
  · have : apt σ a b = false := by
      rw [apt]; exact decide_eq_false (Int32.not_lt.mpr q)
    rw [this] at hq; exact hq
  · have : apt σ a b = true := by
      rw [apt]; exact decide_eq_true (Int32.not_le.mp q)
    rw [this] at hq; exact hq
/-- told barred -/
def stBar (σ : Hp) (a b : Nat) : Hp := hI (hI σ 106 (60 * a + b) 1) 106 (60 * b + a) 1
theorem stBar_c {a b c k : Nat} (h1 : c ≠ 106) : (stBar σ a b).1 c k = σ.1 c k := (hI_c h1).trans (hI_c h1)
theorem stBar_1 {a b : Nat} (k : Nat) : (stBar σ a b).1 106 k = if k = 60 * a + b ∨ k = 60 * b + a then 1 else σ.1 106 k := by
  show (hI (hI σ 106 (60 * a + b) 1) 106 (60 * b + a) 1).1 106 k = _
  by_cases h1 : k = 60 * b + a
  · rw [h1, hI_k, if_pos (Or.inr rfl)]
  · rw [hI_j h1]
    by_cases h2 : k = 60 * a + b
    · rw [h2, hI_k, if_pos (Or.inl rfl)]
    · rw [hI_j h2, if_neg (by omega)]
theorem stBar_bar {a b p q : Nat} (ha : a < 60) (hbb : b < 60) (hq : q < 60) : bar (stBar σ a b) p q = (bar σ p q || (decide (p = a) && decide (q = b)) || (decide (p = b) && decide (q = a))) := by
  rw [bar, bar, stBar_1]
  by_cases h : 60 * p + q = 60 * a + b ∨ 60 * p + q = 60 * b + a
  · rw [if_pos h]
    have : (p = a ∧ q = b) ∨ (p = b ∧ q = a) := by omega
    obtain ⟨h1, h2⟩ | ⟨h1, h2⟩ := this
    · subst h1; subst h2; simp
    · subst h1; subst h2; simp
  · rw [if_neg h]
    have n1 : (decide (p = a) && decide (q = b)) = false := by
      rw [← Bool.decide_and]; exact decide_eq_false (by omega)
    have n2 : (decide (p = b) && decide (q = a)) = false := by
      rw [← Bool.decide_and]; exact decide_eq_false (by omega)
    rw [n1, n2, Bool.or_false, Bool.or_false]
theorem ok_tellBarred {F : Int32 → Hp → Prop} {a b : Nat} (hd : 2 ≤ d) (hS : Std h.2.2) (c : CD σ h) (ha : a < 60) (hbb : b < 60) (hab : a ≠ b) (hq : ∀ h', Fr [16] [] h h' → CD (stBar σ a b) h' → F (bI (!bar σ a b)) h') : OKi d mX0_tellBarred [.ref 8, .int (nI a), .int (nI b)] h F X := by
  have fin : ∀ h', h' = hL (hL h 16 a ((h.2.1 16 a) ||| ((1 : Int64) <<< ((nI b).toInt64 &&& 63)))) 16 b (((hL h 16 a ((h.2.1 16 a) ||| ((1 : Int64) <<< ((nI b).toInt64 &&& 63)))).2.1 16 b) ||| ((1 : Int64) <<< ((nI a).toInt64 &&& 63))) → F (bI (!bar σ a b)) h' := by
    intro h' eh
    have fr : Fr [16] [] h h' := by rw [eh]; exact Fr.tr Fr.pL Fr.pL
    have eD : nD (stBar σ a b) = nD σ := nD_cg (stBar_c (by decide))
    have eA : ∀ k, al (stBar σ a b) k = al σ k := fun k => al_cg (stBar_c (by decide)) (stBar_c (by decide))
    have eS : ∀ k, sol (stBar σ a b) k = sol σ k := fun k => sol_cg (stBar_c (by decide))
    refine hq h' fr ⟨?_, fun d hd => ?_, fun d hd => ?_, fun k hk q => ?_, fun q => ?_, fun q => ?_, fun q => ?_, fun p hp q => ?_, fun p hp q => ?_, ?_, ?_⟩
    · rw [fr.i 8 1, eD]; exact c.n
    · rw [eD] at hd
      rw [fr.i 9 d, fr.i 10 d, fr.i 11 d, fr.i 12 d, stBar_c (by decide), stBar_c (by decide), stBar_c (by decide), stBar_c (by decide)]
      exact c.de hd
    · rw [eD] at hd
      rw [fr.i 13 d, fr.i 14 d, eA, stBar_c (by decide), stBar_c (by decide)]
      exact c.hand hd
    · rw [fr.l 17 k, eA, eS, isof_cg (stBar_c (by decide)) (stBar_c (by decide))]; exact c.of hk q
    · rw [fr.l 8 11, eA, eS]; exact c.sol q
    · rw [fr.l 8 12, eD, dbt_cg (stBar_c (by decide))]; exact c.dbt q
    · rw [fr.l 8 13, eD, eA]; exact c.gone q
    · rw [fr.l 15 p, eD, apt_cg (fun k => stBar_c (by decide)) (fun k => stBar_c (by decide)) fun q hq => ⟨stBar_c (by omega), stBar_c (by omega)⟩]
      exact c.apart hp q
    · have hx : hb (h'.2.1 16 p) q = (hb (h.2.1 16 p) q || (decide (p = a) && decide (q = b)) || (decide (p = b) && decide (q = a))) := by
        rw [eh]
        by_cases hpb : p = b
        · subst hpb
          rw [hL_k, hb_put (by omega), hL_j (Ne.symm hab)]
          simp [Ne.symm hab]
        · rw [hL_j hpb]
          by_cases hpa : p = a
          · subst hpa
            rw [hL_k, hb_put (by omega)]
            simp [hpb]
          · rw [hL_j hpa]; simp [hpa, hpb]
      rw [hx, c.bar hp]
      by_cases hq6 : q < 60
      · rw [stBar_bar ha hbb hq6]; simp [hq6]
      · have : ¬ q = a := by omega
        have : ¬ q = b := by omega
        simp [*]
    · rw [fr.i 8 14, stBar_c (by decide)]; exact c.win.1
    · rw [fr.i 8 15, stBar_c (by decide)]; exact c.win.2
  refine enX0_tellBarred (nI a) (nI b) hd hS ⟨vin ha, ?_⟩
  rw [nI_clamp (by omega), nI_clamp (by omega)]
  refine ok_has (Nat.le_refl _) hS (by omega) ?_
  rw [c.bar ha, decide_eq_true hbb, Bool.true_and]
  refine ⟨fun q => ⟨vin ha, ok_only (Nat.le_refl _) hS ⟨vin ha, vin hbb, ok_only (Nat.le_refl _) hS ⟨vin hbb, ?_⟩⟩⟩, fun q => ⟨vin ha, ok_only (Nat.le_refl _) hS ⟨vin ha, vin hbb, ok_only (Nat.le_refl _) hS ⟨vin hbb, ?_⟩⟩⟩⟩
  · have := fin _ rfl
    rw [bI_0.mp q] at this
    exact this
  · have := fin _ rfl
    rw [bI_n0.mp q] at this
    exact this
end BARRED
