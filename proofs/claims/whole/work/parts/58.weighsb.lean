section WEIGHSB
variable {σ h : Hp} {d : Nat} {X : String → Hp → Prop} {F : Int32 → Hp → Prop} {w : Nat → Nat → Int32} {a b : Nat}
theorem nI_bI (c : Nat) (q : Bool) : nI c + bI q = nI (c + (if q then 1 else 0)) := by
  cases q
  · show nI c + nI 0 = _
    rw [nI_add]; rfl
  · show nI c + nI 1 = _
    rw [nI_add]; rfl
/-- the reference's row of states holds w -/
def MS (σ : Hp) (w : Nat → Nat → Int32) (h : Hp) : Prop := ∀ k m, k < nD σ → m < 16 → h.1 112 (16 * k + m) = w k m
theorem cw_s (s t : Int32) (n : Nat) : cw σ w a b s t (n + 1) = cw σ w a b s t n + (if ctd σ n && decide (w n a = s) && decide (w n b = t) then 1 else 0) := rfl
theorem lp_weighs (hd : 4 ≤ d) (hS : Std h.2.2) (V : VS σ) (m : MC σ h) (ms : MS σ w h) (ha : a < 16) (hbb : b < 16) (hq : F (wt σ w a b) h) : ∀ (n i : Nat), i + n = nD σ →
    E mX12_weighs d 0 0 14 [(0, .ref 91), (1, .int (nI a)), (2, .int (nI b)), (3, .int (nI (cw σ w a b 2 2 i))), (4, .int (nI (cw σ w a b 2 1 i))), (5, .int (nI (cw σ w a b 1 2 i))), (6, .int (nI (cw σ w a b 1 1 i))), (7, .int (nI i))] [] h (Qi F) X := by
  have hD := V.d.2
  have e6 : h.1 91 6 = nI (nD σ) := by rw [m.i 91 6, V.d.1]
  intro n
  induction n with
  | zero =>
    intro i e
    have : i = nD σ := by omega
    subst this
    exact sgX12_weighs_14 _ _ _ _ _ _ _ hd hS ⟨fun _ => hq, fun z => absurd (by rw [e6]; exact nI_le (Nat.le_refl _) (by omega)) z⟩
  | succ n ih =>
    intro i e
    have hi : i < nD σ := by omega
    have nx := ih (i + 1) (by omega)
    rw [cw_s, cw_s, cw_s, cw_s, ← nI_bI, ← nI_bI, ← nI_bI, ← nI_bI, ← nI_1] at nx
    have ea : (16 : Int32) * nI i + nI a = nI (16 * i + a) := by rw [lit_nI 16, pk_mul, nI_add]
    have eb : (16 : Int32) * nI i + nI b = nI (16 * i + b) := by rw [lit_nI 16, pk_mul, nI_add]
    refine sgX12_weighs_14 _ _ _ _ _ _ _ hd hS ⟨fun z => absurd z (by rw [e6]; exact nI_ge hi (by omega)), fun _ => ?_⟩
    rw [ea, eb, nI_clamp (by omega), nI_clamp (by omega), ms i a hi ha, ms i b hi hbb]
    revert nx
    generalize w i a = x
    generalize w i b = y
    intro nx
    have skip : (ctd σ i && (lkd x && lkd y)) = false → E mX12_weighs d 0 0 165 [(0, .ref 91), (1, .int (nI a)), (2, .int (nI b)), (3, .int (nI (cw σ w a b 2 2 i))), (4, .int (nI (cw σ w a b 2 1 i))), (5, .int (nI (cw σ w a b 1 2 i))), (6, .int (nI (cw σ w a b 1 1 i))), (7, .int (nI i))] [] h (Qi F) X := fun hz => by
      refine sgX12_weighs_165 _ _ _ _ _ _ _ hd hS ?_
      have z0 : ∀ s t : Int32, (s = 1 ∨ s = 2) → (t = 1 ∨ t = 2) → (ctd σ i && decide (x = s) && decide (y = t)) = false := fun s t hs ht => by
        cases hc : ctd σ i
        · rfl
        · rw [hc, Bool.true_and] at hz
          rw [Bool.true_and, ← Bool.decide_and]
          refine decide_eq_false fun q => ?_
          obtain ⟨q1, q2⟩ := q
          have h1 : lkd x = true := by rw [q1]; obtain rfl | rfl := hs <;> rfl
          have h2 : lkd y = true := by rw [q2]; obtain rfl | rfl := ht <;> rfl
          rw [h1, h2] at hz; cases hz
      rw [z0 2 2 (Or.inr rfl) (Or.inr rfl), z0 2 1 (Or.inr rfl) (Or.inl rfl), z0 1 2 (Or.inl rfl) (Or.inr rfl), z0 1 1 (Or.inl rfl) (Or.inl rfl), nI_bI, nI_bI, nI_bI, nI_bI] at nx
      exact nx
    refine ⟨vin (by omega), vin (by omega), ok_countsM hd hS V m hi ⟨fun z => skip ?_, fun z => ok_isLookedM (by omega) hS ⟨fun z2 => skip ?_, fun z2 => ok_isLookedM (by omega) hS ⟨fun z3 => skip ?_, fun z3 => ?_⟩⟩⟩⟩
    · rw [bI_0.mp z]; rfl
    · rw [bI_0.mp z2, Bool.false_and, Bool.and_false]
    · rw [bI_0.mp z3, Bool.and_false, Bool.and_false]
    · rw [bI_n0.mp z, Bool.true_and, Bool.true_and] at nx
      refine ⟨fun q => ⟨fun q2 => wg_97 hd hS ?_, fun q2 => sgX12_weighs_96 _ _ _ _ _ _ _ _ _ hd hS (wg_97 hd hS ?_)⟩, fun q => sgX12_weighs_96 _ _ _ _ _ _ _ _ _ hd hS (wg_97 hd hS ?_)⟩
      · have e : bI (decide (x = 2) && decide (y = 2)) = 1 := by rw [decide_eq_true q, decide_eq_true q2]; rfl
        rw [e] at nx; exact nx
      · have e : bI (decide (x = 2) && decide (y = 2)) = 0 := by rw [decide_eq_false q2, Bool.and_false]; rfl
        rw [e] at nx; exact nx
      · have e : bI (decide (x = 2) && decide (y = 2)) = 0 := by rw [decide_eq_false q, Bool.false_and]; rfl
        rw [e] at nx; exact nx
theorem ok_weighs (hd : 5 ≤ d) (hS : Std h.2.2) (V : VS σ) (m : MC σ h) (ms : MS σ w h) (ha : a < 16) (hbb : b < 16) (hq : F (wt σ w a b) h) : OKi d mX12_weighs [.ref 91, .int (nI a), .int (nI b)] h F X :=
  enX12_weighs (nI a) (nI b) hd hS (lp_weighs (Nat.le_refl _) hS V m ms ha hbb hq (nD σ) 0 (by omega))
end WEIGHSB
