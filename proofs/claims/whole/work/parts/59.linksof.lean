section LINKSOF
variable {σ h : Hp} {d : Nat} {X : String → Hp → Prop} {F : Int32 → Hp → Prop} {a : Int32}
theorem lp_linksOf (hS : Std h.2.2) (V : VS σ) (m : MC σ h) (hq : F (nI (lnk σ a (nL σ))) h) : ∀ (n i : Nat), i + n = nL σ →
    E mX12_linksOf d 0 0 4 [(0, .ref 91), (1, .int a), (2, .int (nI (lnk σ a i))), (3, .int (nI i))] [] h (Qi F) X := by
  have hL := V.l.2
  have e7 : h.1 91 7 = nI (nL σ) := by rw [m.i 91 7, V.l.1]
  intro n
  induction n with
  | zero =>
    intro i e
    have : i = nL σ := by omega
    subst this
    exact sgX12_linksOf_4 _ _ _ (Nat.zero_le _) hS ⟨fun _ => hq, fun z => absurd (by rw [e7]; exact nI_le (Nat.le_refl _) (by omega)) z⟩
  | succ n ih =>
    intro i e
    have hi : i < nL σ := by omega
    have nx := ih (i + 1) (by omega)
    have el : lnk σ a (i + 1) = lnk σ a i + (if decide (σ.1 110 i = a) || decide (σ.1 111 i = a) then 1 else 0) := rfl
    refine sgX12_linksOf_4 _ _ _ (Nat.zero_le _) hS ⟨fun z => absurd z (by rw [e7]; exact nI_ge hi (by omega)), fun _ => ⟨vin (by omega), ?_⟩⟩
    rw [nI_1, nI_1, nI_clamp (by omega), m.i 110 i, m.i 111 i]
    refine ⟨fun z => ?_, fun z => ⟨vin (by omega), fun z2 => ?_, fun z2 => ?_⟩⟩
    · rw [el, decide_eq_true z, Bool.true_or, if_pos rfl] at nx; exact nx
    · rw [el, decide_eq_true z2, Bool.or_true, if_pos rfl] at nx; exact nx
    · rw [Int32.add_zero]
      rw [el, decide_eq_false z, decide_eq_false z2] at nx; exact nx
theorem ok_linksOfM (hd : 1 ≤ d) (hS : Std h.2.2) (V : VS σ) (m : MC σ h) (hq : F (nI (lnk σ a (nL σ))) h) : OKi d mX12_linksOf [.ref 91, .int a] h F X :=
  enX12_linksOf a hd hS (lp_linksOf hS V m hq (nL σ) 0 (by omega))
end LINKSOF
