/-! the number of tokens -/
section SCEX
def scF (t : Nat → Int32) (n : Nat) : Nat → Nat → Nat
  | 0, k => k
  | f + 1, k => if Kr t n k = 16 then k else if Kr t n k = 17 then k + 1 else scF t n f (k + 1)
variable {t : Nat → Int32} {n : Nat}
theorem scF_ok : ∀ f k, n < f + k → (∀ j, j < k → Kr t n j ≠ 16 ∧ Kr t n j ≠ 17) → ScT t n (scF t n f k)
  | 0, k, h, a => by
    have := PT_k (t := t) (n := n) k fun j hj => (a j hj).1
    have := PT_le (t := t) (n := n) k
    omega
  | f + 1, k, h, a => by
    have kP := PT_k (t := t) (n := n) k fun j hj => (a j hj).1
    have kn := PT_le (t := t) (n := n) k
    rw [scF]
    by_cases z : Kr t n k = 16
    · rw [if_pos z]
      exact ⟨by omega, fun j hj => (a j hj).1, fun j hj => (a j (by omega)).2, Or.inl z⟩
    rw [if_neg z]
    have a16 : ∀ j, j < k + 1 → Kr t n j ≠ 16 := fun j hj => by
      by_cases e : j = k
      · rw [e]; exact z
      · exact (a j (by omega)).1
    by_cases z2 : Kr t n k = 17
    · rw [if_pos z2]
      have := PT_k (t := t) (n := n) (k + 1) a16
      have := PT_le (t := t) (n := n) (k + 1)
      exact ⟨by omega, a16, fun j hj => (a j (by omega)).2, Or.inr ⟨Nat.succ_pos _, z2⟩⟩
    · rw [if_neg z2]
      refine scF_ok f (k + 1) (by omega) fun j hj => ⟨a16 j hj, ?_⟩
      by_cases e : j = k
      · rw [e]; exact z2
      · exact (a j (by omega)).2
def TT (t : Nat → Int32) (n : Nat) : Nat := scF t n (n + 1) 0
theorem TT_ok : ScT t n (TT t n) := scF_ok (n + 1) 0 (by omega) fun j hj => absurd hj (Nat.not_lt_zero _)
theorem TT_is {T : Nat} (S : ScT t n T) : T = TT t n := ScT_uq S TT_ok
end SCEX
/-! VZ: states of marks that are not there, kept -/
section VZK
variable {σ : Hp} {a m : Nat} {s : Int32}
theorem VZ_mark (V : VS σ) (Z : VZ σ) (h : nM σ < 16) : VZ (stMark σ) := by
  have e : nM (stMark σ) = nM σ + 1 := by
    show (hI σ 91 3 (nI (nM σ + 1)) |>.1 91 3).toNatClampNeg = _
    rw [hI_k, nI_clamp (by omega)]
  intro b hb2 j h1 h2
  rw [e] at h1
  exact Z b hb2 j (by omega) h2
theorem VZ_tell (V : VS σ) (Z : VZ σ) (ha : a < 60) (hm : m < nM σ) : VZ (stTell σ a m s) := by
  have hM := V.m.2
  have f : Fr [107, 108] [] σ (stTell σ a m s) := stTell_fr
  have e : nM (stTell σ a m s) = nM σ := by rw [nM, nM, f.i 91 3]
  intro b hb2 j h1 h2
  rw [e] at h1
  rw [lst, stTell_1, if_neg (by omega)]
  exact Z b hb2 j h1 h2
end VZK
