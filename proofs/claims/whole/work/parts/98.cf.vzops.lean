/-! VZ kept by the ops -/
section VZOPS
variable {σ : Hp} {x y l a b o s m : Int32} {is : Bool}
theorem VZ_fr {σ' : Hp} {L : List Nat} {fs : List (Nat × Nat)} (Z : VZ σ) (f : Fr L fs σ σ') (h : ∀ j, inW L fs 91 3 = false ∧ inW L fs 107 j = false := by exact fun _ => ⟨rfl, rfl⟩) : VZ σ' :=
  Z.cg (congrArg Int32.toNatClampNeg (f.i 91 3 (h 0).1)) fun j => f.i 107 j (h j).2
theorem VZ_nxPlace (Z : VZ σ) : VZ (nxPlace σ x y l) := by
  rw [nxPlace]; split
  · exact VZ_fr Z (Fr.tr (Fr.tr (Fr.tr Fr.pI Fr.pI) Fr.pI) Fr.pI : Fr [92, 93, 94] [(91, 2)] σ _)
  · exact Z
theorem VZ_nxMark (V : VS σ) (Z : VZ σ) : VZ (nxMark σ) := by
  rw [nxMark]; split
  · next h => exact VZ_mark V Z h
  · exact Z
theorem VZ_nxHand (Z : VZ σ) : VZ (nxHand σ x) := by
  rw [nxHand]; split
  · exact VZ_fr Z (Fr.tr Fr.pI Fr.pI : Fr [95] [(91, 4)] σ _)
  · exact Z
theorem VZ_nxOfficer (Z : VZ σ) : VZ (nxOfficer σ x y) := by
  rw [nxOfficer]; split
  · exact VZ_fr Z (Fr.tr (Fr.tr Fr.pI Fr.pI) Fr.pI : Fr [96, 97] [(91, 5)] σ _)
  · exact Z
theorem VZ_nxDeed (Z : VZ σ) : VZ (nxDeed σ a x y) := by
  rw [nxDeed]; split
  · exact VZ_fr Z stAdd_fr
  · exact Z
theorem VZ_nxDoubt (Z : VZ σ) : VZ (nxDoubt σ a is) := by
  rw [nxDoubt]; split
  · exact VZ_fr Z (Fr.pI : Fr [104] [] σ _)
  · exact Z
theorem VZ_nxSolve (Z : VZ σ) : VZ (nxSolve σ a x y) := by
  rw [nxSolve]; split
  · exact VZ_fr Z (Fr.tr Fr.pI Fr.pI : Fr [102, 103] [] σ _)
  · exact Z
theorem VZ_nxBar (Z : VZ σ) : VZ (nxBar σ a b) := by
  rw [nxBar]; split
  · exact VZ_fr Z (Fr.tr Fr.pI Fr.pI : Fr [106] [] σ _)
  · exact Z
theorem VZ_nxLink (Z : VZ σ) : VZ (nxLink σ o a b) := by
  rw [nxLink]; split
  · exact VZ_fr Z (Fr.tr (Fr.tr (Fr.tr Fr.pI Fr.pI) Fr.pI) Fr.pI : Fr [109, 110, 111] [(91, 7)] σ _)
  · exact Z
theorem VZ_nxForget (Z : VZ σ) : VZ (nxForget σ a) := by
  rw [nxForget]; split
  · exact VZ_fr Z stForget_fr
  · exact Z
theorem VZ_nxKeep (Z : VZ σ) : VZ (nxKeep σ a s b) := by
  rw [nxKeep]; split
  · exact VZ_fr Z (Fr.tr (Fr.tr Fr.pI Fr.pI) Fr.pI : Fr [131, 132] [(91, 8)] σ _)
  · exact Z
theorem VZ_nxCame (Z : VZ σ) : VZ (nxCame σ m a) := by
  rw [nxCame]; split
  · exact VZ_fr Z (Fr.pI : Fr [132] [] σ _)
  · exact Z
end VZOPS
