/-! a deed is added -/
theorem hI_if {h : Hp} {c k j : Nat} {v : Int32} : (hI h c k v).1 c j = if j = k then v else h.1 c j := by
  by_cases hj : j = k
  · rw [hj, hI_k, if_pos rfl]
  · rw [hI_j hj, if_neg hj]
theorem maxI_comm (x y : Int32) : maxI x y = maxI y x := by
  rw [maxI, maxI]
  by_cases h1 : x < y
  · rw [if_pos h1, if_neg (fa_of_lt h1).2.2.1]
  · rw [if_neg h1]
    by_cases h2 : y < x
    · rw [if_pos h2]
    · rw [if_neg h2]
      rw [fa_lt] at h1 h2
      rw [fa_eq]; omega
theorem absI_tab : ∀ x, x < 100 → ∀ y, y < 100 → absI (nI x - nI y) = absI (nI y - nI x) := by decide +kernel
section ADDED
variable {σ h : Hp} {d : Nat} {X : String → Hp → Prop} {p f t : Int32}
def stAdd (σ : Hp) (p f t : Int32) : Hp := hI (hI (hI (hI (hI (hI (hI σ 98 (nD σ) p) 99 (nD σ) f) 100 (nD σ) t) 101 (nD σ) (σ.1 91 1)) 102 (nD σ) (-1)) 103 (nD σ) (-1)) 91 6 (nI (nD σ + 1))
theorem stAdd_fr : Fr [98, 99, 100, 101, 102, 103] [(91, 6)] σ (stAdd σ p f t) := Fr.tr (Fr.tr (Fr.tr (Fr.tr (Fr.tr (Fr.tr Fr.pI Fr.pI) Fr.pI) Fr.pI) Fr.pI) Fr.pI) Fr.pI
theorem stAdd_98 (k : Nat) : (stAdd σ p f t).1 98 k = if k = nD σ then p else σ.1 98 k := by
  rw [stAdd, hI_c (by decide), hI_c (by decide), hI_c (by decide), hI_c (by decide), hI_c (by decide), hI_c (by decide), hI_if]
theorem stAdd_99 (k : Nat) : (stAdd σ p f t).1 99 k = if k = nD σ then f else σ.1 99 k := by
  rw [stAdd, hI_c (by decide), hI_c (by decide), hI_c (by decide), hI_c (by decide), hI_c (by decide), hI_if, hI_c (by decide)]
theorem stAdd_100 (k : Nat) : (stAdd σ p f t).1 100 k = if k = nD σ then t else σ.1 100 k := by
  rw [stAdd, hI_c (by decide), hI_c (by decide), hI_c (by decide), hI_c (by decide), hI_if, hI_c (by decide), hI_c (by decide)]
theorem stAdd_101 (k : Nat) : (stAdd σ p f t).1 101 k = if k = nD σ then σ.1 91 1 else σ.1 101 k := by
  rw [stAdd, hI_c (by decide), hI_c (by decide), hI_c (by decide), hI_if, hI_c (by decide), hI_c (by decide), hI_c (by decide)]
theorem stAdd_102 (k : Nat) : (stAdd σ p f t).1 102 k = if k = nD σ then -1 else σ.1 102 k := by
  rw [stAdd, hI_c (by decide), hI_c (by decide), hI_if, hI_c (by decide), hI_c (by decide), hI_c (by decide), hI_c (by decide)]
theorem stAdd_103 (k : Nat) : (stAdd σ p f t).1 103 k = if k = nD σ then -1 else σ.1 103 k := by
  rw [stAdd, hI_c (by decide), hI_if, hI_c (by decide), hI_c (by decide), hI_c (by decide), hI_c (by decide), hI_c (by decide)]
theorem stAdd_n (h60 : nD σ < 60) : nD (stAdd σ p f t) = nD σ + 1 := by
  have : (stAdd σ p f t).1 91 6 = nI (nD σ + 1) := hI_k
  rw [nD, this, nI_clamp (by omega)]
theorem dst_sym (V : VS σ) {a b : Nat} (ha : a < nP σ) (hb : b < nP σ) : dst σ a b = dst σ b a := by
  obtain ⟨x, y, hx, hy, e1, e2⟩ := V.xy ha
  obtain ⟨x', y', hx', hy', e3, e4⟩ := V.xy hb
  rw [dst, dst, e1, e2, e3, e4, absI_tab x (by omega) x' (by omega), absI_tab y (by omega) y' (by omega)]
theorem CP_cg {σ' : Hp} (c : CP σ h) (fr : Fr [98, 99, 100, 101, 102, 103] [(91, 6)] σ σ') : CP σ' h := by
  have e : nP σ' = nP σ := by rw [nP, nP, fr.i 91 2]
  refine ⟨by rw [e]; exact c.1, fun p hp => ?_⟩
  rw [e] at hp
  rw [fr.i 92 p, fr.i 93 p, fr.i 94 p]
  exact c.2 p hp
/-- the new state's deeds keep their places -/
theorem stAdd_plc (V : VS σ) {q : Nat} (hq : q < nP σ) (h60 : nD σ < 60) {k : Nat} (hk : k ≤ nD σ) : (stAdd σ (nI q) f t).1 98 k = nI (plc (stAdd σ (nI q) f t) k) ∧ plc (stAdd σ (nI q) f t) k < nP σ := by
  have hP := V.p.2
  by_cases hkn : k = nD σ
  · have e : (stAdd σ (nI q) f t).1 98 k = nI q := by rw [stAdd_98, if_pos hkn]
    rw [plc, e, nI_clamp (by omega)]
    exact ⟨rfl, hq⟩
  · have e : (stAdd σ (nI q) f t).1 98 k = σ.1 98 k := by rw [stAdd_98, if_neg hkn]
    rw [plc, e]
    exact (V.de (by omega)).1
theorem stAdd_apt {a b : Nat} (ha : a ≠ nD σ) (hb : b ≠ nD σ) : apt (stAdd σ p f t) a b = apt σ a b := by
  refine apt_cg (fun k => stAdd_fr.i 92 k) (fun k => stAdd_fr.i 93 k) fun c hc => ?_
  obtain rfl | rfl | rfl := hc
  · rw [stAdd_98, stAdd_98, if_neg ha, if_neg hb]; exact ⟨rfl, rfl⟩
  · rw [stAdd_99, stAdd_99, if_neg ha, if_neg hb]; exact ⟨rfl, rfl⟩
  · rw [stAdd_100, stAdd_100, if_neg ha, if_neg hb]; exact ⟨rfl, rfl⟩
theorem stAdd_sym (V : VS σ) {q : Nat} (hq : q < nP σ) (h60 : nD σ < 60) {a b : Nat} (ha : a ≤ nD σ) (hb : b ≤ nD σ) : apt (stAdd σ (nI q) f t) a b = apt (stAdd σ (nI q) f t) b a := by
  have e : ∀ a b, dst (stAdd σ (nI q) f t) a b = dst σ a b := fun a b => dst_cg (fun k => stAdd_fr.i 92 k) (fun k => stAdd_fr.i 93 k)
  rw [apt, apt, maxI_comm, e, e, dst_sym V (stAdd_plc V hq h60 ha).2 (stAdd_plc V hq h60 hb).2]
end ADDED
