/-! VZ, VN kept by the rest -/
section VZREST
variable {σ : Hp} {x y l a b o s m t p : Int32} {v : Int64} {is : Bool}
theorem VN_fr {σ' : Hp} {L : List Nat} {fs : List (Nat × Nat)} (N : VN σ) (f : Fr L fs σ σ') (h : inW L fs 91 1 = false := by rfl) : VN σ' := by
  obtain ⟨n, hn, e⟩ := N
  exact ⟨n, hn, by rw [f.i 91 1 h]; exact e⟩
theorem VZ_nxTell (V : VS σ) (Z : VZ σ) : VZ (nxTell σ a m s) := by
  have hD := V.d.2
  have hM := V.m.2
  rw [nxTell]
  by_cases e : cdTell σ a m s = 0
  · rw [if_pos e]
    rw [cdTell] at e
    by_cases q : isD σ a = true ∧ isN m (nM σ) = true
    · obtain ⟨i, _, ei, hi⟩ := isD_t V q.1
      obtain ⟨j, hj, ej⟩ := isN_t (by omega) q.2
      rw [ei, ej, nI_clamp (by omega), nI_clamp (by omega)]
      exact VZ_tell V Z (by omega) hj
    · rw [if_neg q] at e; omega
  · rw [if_neg e]; exact Z
theorem VZ_nxWrite (Z : VZ σ) : VZ (nxWrite σ t p v) := by
  rw [nxWrite]; split
  · exact VZ_fr Z (Fr.pL : Fr [145] [] σ _)
  · exact Z
end VZREST
