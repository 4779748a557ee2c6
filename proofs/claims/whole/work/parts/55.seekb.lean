/-! the search over all marks; outcomes by the reference -/
section SEEKB
variable {σ h : Hp} {d : Nat} {X : String → Hp → Prop}
theorem lp_seek {F : Hp → Prop} (hd : 5 ≤ d) (hS : Std h.2.2) (V : VS σ) (hm : h.1 91 3 = nI (nM σ))
    (nx : E mX12_layTree d 0 0 82 [(0, .ref 91), (2, .int (pkA (h.1 117) (sepM h) (nM σ) (nM σ))), (3, .int (nI (nM σ)))] [] h (Qv F) X) :
    ∀ (n a : Nat), a + n = nM σ → E mX12_layTree d 0 0 82 [(0, .ref 91), (2, .int (pkA (h.1 117) (sepM h) (nM σ) a)), (3, .int (nI a))] [] h (Qv F) X := by
  have hM := V.m.2
  intro n
  induction n with
  | zero =>
    intro a e
    have : a = nM σ := by omega
    subst this
    exact nx
  | succ n ih =>
    intro a e
    have ha : a < nM σ := by omega
    refine sgX12_layTree_82 _ _ hd hS ⟨fun z => absurd z (by rw [hm]; exact nI_ge ha (by omega)), fun _ => ?_⟩
    rw [nI_1]
    have := lp_seek1 hd hS V hm ha (ih (a + 1) (by omega)) (nM σ - (a + 1)) (a + 1) (by omega) (by omega)
    rw [pkR_lo (a + 1) (Nat.le_refl _)] at this
    exact this
theorem ok_isLookedM {F : Int32 → Hp → Prop} {x : Int32} (hd : 1 ≤ d) (hS : Std h.2.2) (hq : F (bI (lkd x)) h) : OKi d mX12_isLooked [.int x] h F X := by
  refine enX12_isLooked x hd hS ⟨fun z => ?_, fun z => ⟨fun z2 => ?_, fun z2 => ?_⟩⟩
  · rw [lkd, decide_eq_true z, Bool.true_or] at hq; exact hq
  · rw [lkd, decide_eq_true z2, Bool.or_true] at hq; exact hq
  · rw [lkd, decide_eq_false z, decide_eq_false z2] at hq; exact hq
theorem ok_outcomeM {F : Int32 → Hp → Prop} {x y : Int32} (hd : 2 ≤ d) (hS : Std h.2.2) (hq : F (otc x y) h) : OKi d mX12_outcome [.int x, .int y] h F X := by
  refine enX12_outcome x y hd hS (ok_isLookedM (by omega) hS ⟨fun z => ?_, fun z => ok_isLookedM (by omega) hS ⟨fun z2 => ?_, fun z2 => ?_⟩⟩)
  · rw [otc, bI_0.mp z] at hq; exact hq
  · rw [otc, bI_0.mp z2, Bool.and_false] at hq; exact hq
  · rw [otc, bI_n0.mp z, bI_n0.mp z2] at hq; exact hq
end SEEKB
