section OVER
variable {σ h : Hp} {d : Nat} {X : String → Hp → Prop} {F : Int32 → Hp → Prop} {w : Nat → Nat → Int32} {par : Nat → Int32} {a b m : Nat}
/-- the parents, as the reference's row holds them -/
def PS (σ : Hp) (par : Nat → Int32) (h : Hp) : Prop := ∀ k, k < nM σ → h.1 114 k = par k ∧ (par k = -1 ∨ ∃ p, p < nM σ ∧ par k = nI p)
def ovr (w : Nat → Nat → Int32) (par : Nat → Int32) (m a b : Nat) : Int32 := if par m = -1 then 3 else otc (w a (par m).toNatClampNeg) (w b (par m).toNatClampNeg)
theorem ok_overM (hd : 3 ≤ d) (hS : Std h.2.2) (V : VS σ) (ms : MS σ w h) (ps : PS σ par h) (hm : m < nM σ) (ha : a < nD σ) (hbb : b < nD σ) (hq : F (ovr w par m a b) h) : OKi d mX12_over [.ref 91, .int (nI m), .int (nI a), .int (nI b)] h F X := by
  have hM := V.m.2
  have hD := V.d.2
  obtain ⟨e1, e2⟩ := ps m hm
  refine enX12_over (nI m) (nI a) (nI b) hd hS ⟨vin (by omega), ?_⟩
  rw [nI_clamp (by omega), e1]
  refine ⟨fun z => by rw [ovr, if_pos z] at hq; exact hq, fun z => ?_⟩
  obtain e2 | ⟨p, hp, e2⟩ := e2
  · exact absurd e2 z
  · rw [ovr, if_neg z] at hq
    rw [e2, nI_clamp (by omega)] at hq
    have ea : (16 : Int32) * nI a + nI p = nI (16 * a + p) := by rw [lit_nI 16, pk_mul, nI_add]
    have eb : (16 : Int32) * nI b + nI p = nI (16 * b + p) := by rw [lit_nI 16, pk_mul, nI_add]
    rw [e2, ea, eb, nI_clamp (by omega), nI_clamp (by omega), ms a p ha (by omega), ms b p hbb (by omega)]
    exact ⟨vin (by omega), vin (by omega), vin (by omega), vin (by omega), ok_outcomeM (by omega) hS hq⟩
end OVER
