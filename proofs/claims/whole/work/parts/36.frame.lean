/-! what a method may write: cells, and single places of cells -/
def inW (L : List Nat) (fs : List (Nat × Nat)) (c k : Nat) : Bool := L.contains c || fs.contains (c, k)
def Fr (L : List Nat) (fs : List (Nat × Nat)) (h h' : Hp) : Prop := h'.2.2 = h.2.2 ∧ ∀ c k, inW L fs c k = false → h'.1 c k = h.1 c k ∧ h'.2.1 c k = h.2.1 c k
section FR
variable {L L' : List Nat} {fs fs' : List (Nat × Nat)} {h h1 h2 : Hp}
theorem Fr.rf : Fr L fs h h := ⟨rfl, fun _ _ _ => ⟨rfl, rfl⟩⟩
theorem Fr.tr (a : Fr L fs h h1) (b : Fr L fs h1 h2) : Fr L fs h h2 := ⟨b.1.trans a.1, fun c k q => ⟨(b.2 c k q).1.trans (a.2 c k q).1, (b.2 c k q).2.trans (a.2 c k q).2⟩⟩
theorem inW_mono (hL : ∀ c ∈ L, c ∈ L') (hf : ∀ p ∈ fs, p ∈ fs' ∨ p.1 ∈ L') {c k : Nat} (q : inW L' fs' c k = false) : inW L fs c k = false := by
  simp only [inW, Bool.or_eq_false_iff, List.contains_eq_mem, decide_eq_false_iff_not] at q ⊢
  exact ⟨fun z => q.1 (hL c z), fun z => (hf (c, k) z).elim q.2 q.1⟩
theorem Fr.mono (a : Fr L fs h h1) (hL : ∀ c ∈ L, c ∈ L' := by decide) (hf : ∀ p ∈ fs, p ∈ fs' ∨ p.1 ∈ L' := by decide) : Fr L' fs' h h1 := ⟨a.1, fun c k q => a.2 c k (inW_mono hL hf q)⟩
theorem Fr.i (a : Fr L fs h h1) (c k : Nat) (q : inW L fs c k = false := by rfl) : h1.1 c k = h.1 c k := (a.2 c k q).1
theorem Fr.l (a : Fr L fs h h1) (c k : Nat) (q : inW L fs c k = false := by rfl) : h1.2.1 c k = h.2.1 c k := (a.2 c k q).2
theorem Fr.sd (a : Fr L fs h h1) (hS : Std h.2.2) : Std h1.2.2 := by rw [a.1]; exact hS
theorem Fr.pI {c k : Nat} {v : Int32} (q : inW L fs c k = true := by rfl) : Fr L fs h (hI h c k v) := ⟨rfl, fun d j z => ⟨by
  by_cases hd : d = c
  · subst hd
    by_cases hj : j = k
    · subst hj; rw [q] at z; cases z
    · exact up2_nk hj
  · exact congrFun (up2_ne hd) j, rfl⟩⟩
theorem Fr.pL {c k : Nat} {v : Int64} (q : inW L fs c k = true := by rfl) : Fr L fs h (hL h c k v) := ⟨rfl, fun d j z => ⟨rfl, by
  by_cases hd : d = c
  · subst hd
    by_cases hj : j = k
    · subst hj; rw [q] at z; cases z
    · exact up2_nk hj
  · exact congrFun (up2_ne hd) j⟩⟩
end FR
theorem hI_k {h : Hp} {c k : Nat} {v : Int32} : (hI h c k v).1 c k = v := up2_kk
theorem hI_j {h : Hp} {c k j : Nat} {v : Int32} (q : j ≠ k) : (hI h c k v).1 c j = h.1 c j := up2_nk q
theorem hI_c {h : Hp} {c k d j : Nat} {v : Int32} (q : d ≠ c) : (hI h c k v).1 d j = h.1 d j := congrFun (up2_ne q) j
theorem hI_l {h : Hp} {c k d j : Nat} {v : Int32} : (hI h c k v).2.1 d j = h.2.1 d j := rfl
theorem hL_k {h : Hp} {c k : Nat} {v : Int64} : (hL h c k v).2.1 c k = v := up2_kk
theorem hL_j {h : Hp} {c k j : Nat} {v : Int64} (q : j ≠ k) : (hL h c k v).2.1 c j = h.2.1 c j := up2_nk q
theorem hL_c {h : Hp} {c k d j : Nat} {v : Int64} (q : d ≠ c) : (hL h c k v).2.1 d j = h.2.1 d j := congrFun (up2_ne q) j
theorem hL_i {h : Hp} {c k d j : Nat} {v : Int64} : (hL h c k v).1 d j = h.1 d j := rfl
/-- a place of a row -/
theorem vin {n N : Nat} (h : n < N) (hN : N < 2 ^ 31 := by decide) : vp_in (nI n) N := vp_in_nI h hN
