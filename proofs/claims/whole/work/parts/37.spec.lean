/-! the state of the house, as the reference's cells σ tell it -/
def nP (σ : Hp) : Nat := (σ.1 91 2).toNatClampNeg
def nM (σ : Hp) : Nat := (σ.1 91 3).toNatClampNeg
def nH (σ : Hp) : Nat := (σ.1 91 4).toNatClampNeg
def nO (σ : Hp) : Nat := (σ.1 91 5).toNatClampNeg
def nD (σ : Hp) : Nat := (σ.1 91 6).toNatClampNeg
def nL (σ : Hp) : Nat := (σ.1 91 7).toNatClampNeg
def nK (σ : Hp) : Nat := (σ.1 91 8).toNatClampNeg
def al (σ : Hp) (d : Nat) : Bool := decide (d < nD σ) && decide (σ.1 105 d = 0)
def dbt (σ : Hp) (d : Nat) : Bool := !decide (σ.1 104 d = 0)
def stn (σ : Hp) (d : Nat) : Bool := al σ d && !dbt σ d
def ctd (σ : Hp) (d : Nat) : Bool := stn σ d && (decide (σ.1 91 29 ≤ σ.1 99 d) && decide (σ.1 99 d ≤ σ.1 91 30))
def sol (σ : Hp) (d : Nat) : Bool := !decide (σ.1 102 d = -1)
def isof (σ : Hp) (d : Nat) (x : Int32) : Bool := decide (σ.1 102 d = x) || decide (σ.1 103 d = x)
def one (σ : Hp) (a b : Nat) : Bool := sol σ a && sol σ b && (isof σ b (σ.1 102 a) || isof σ b (σ.1 103 a))
def plc (σ : Hp) (d : Nat) : Nat := (σ.1 98 d).toNatClampNeg
def absI (x : Int32) : Int32 := if 0 ≤ x then x else 0 - x
def maxI (x y : Int32) : Int32 := if x < y then y else x
def dst (σ : Hp) (a b : Nat) : Int32 := absI (σ.1 92 a - σ.1 92 b) + absI (σ.1 93 a - σ.1 93 b)
def apt (σ : Hp) (a b : Nat) : Bool := decide (maxI (σ.1 100 a - σ.1 99 b) (σ.1 100 b - σ.1 99 a) * 4 < dst σ (plc σ a) (plc σ b))
def bar (σ : Hp) (a b : Nat) : Bool := !decide (σ.1 106 (60 * a + b) = 0)
def brd (σ : Hp) (a b : Nat) : Bool := !one σ a b && (apt σ a b || bar σ a b || (sol σ a && sol σ b))
def lst (σ : Hp) (d m : Nat) : Int32 := σ.1 107 (16 * d + m)
def pln (σ : Hp) (d m : Nat) : Int32 := σ.1 108 (16 * d + m)
def Hand (σ : Hp) (d : Nat) : Prop := (σ.1 102 d = -1 ∧ σ.1 103 d = -1) ∨ ∃ j k, j < nH σ ∧ k < nH σ ∧ σ.1 102 d = nI j ∧ σ.1 103 d = nI k
def S03 (x : Int32) : Prop := x = 0 ∨ x = 1 ∨ x = 2 ∨ x = 3
/-- what holds of the state -/
def VS (σ : Hp) : Prop :=
  (σ.1 91 2 = nI (nP σ) ∧ nP σ ≤ 30) ∧ (σ.1 91 3 = nI (nM σ) ∧ nM σ ≤ 16) ∧ (σ.1 91 4 = nI (nH σ) ∧ nH σ ≤ 20) ∧ (σ.1 91 5 = nI (nO σ) ∧ nO σ ≤ 10) ∧ (σ.1 91 6 = nI (nD σ) ∧ nD σ ≤ 60) ∧ (σ.1 91 7 = nI (nL σ) ∧ nL σ ≤ 40) ∧ (σ.1 91 8 = nI (nK σ) ∧ nK σ ≤ 20) ∧
  (∀ p, p < nP σ → ∃ x y, x ≤ 99 ∧ y ≤ 99 ∧ σ.1 92 p = nI x ∧ σ.1 93 p = nI y) ∧
  (∀ d, d < nD σ → (σ.1 98 d = nI (plc σ d) ∧ plc σ d < nP σ) ∧ (∃ f t, f ≤ t ∧ t ≤ 99999 ∧ σ.1 99 d = nI f ∧ σ.1 100 d = nI t) ∧ Hand σ d ∧ (σ.1 104 d = 0 ∨ σ.1 104 d = 1) ∧ (σ.1 105 d = 0 ∨ σ.1 105 d = 1)) ∧
  (∀ j, σ.1 106 j = 0 ∨ σ.1 106 j = 1) ∧ (∀ j, S03 (σ.1 107 j) ∧ S03 (σ.1 108 j)) ∧
  (∀ k, k < nH σ → σ.1 95 k = -1 ∨ ∃ p, p < nP σ ∧ σ.1 95 k = nI p) ∧
  (∀ k, k < nL σ → ∃ a b, σ.1 110 k = nI a ∧ σ.1 111 k = nI b ∧ al σ a = true ∧ al σ b = true ∧ a ≠ b) ∧
  (∀ d, nD σ ≤ d → d < 60 → σ.1 104 d = 0 ∧ σ.1 105 d = 0 ∧ ∀ m, m < 16 → lst σ d m = 0 ∧ pln σ d m = 0) ∧
  (∀ a b, a < 60 → b < 60 → bar σ a b = true → bar σ b a = true ∧ a < nD σ ∧ b < nD σ)
section VSP
variable {σ : Hp}
theorem VS.p (V : VS σ) : σ.1 91 2 = nI (nP σ) ∧ nP σ ≤ 30 := V.1
theorem VS.m (V : VS σ) : σ.1 91 3 = nI (nM σ) ∧ nM σ ≤ 16 := V.2.1
theorem VS.h (V : VS σ) : σ.1 91 4 = nI (nH σ) ∧ nH σ ≤ 20 := V.2.2.1
theorem VS.o (V : VS σ) : σ.1 91 5 = nI (nO σ) ∧ nO σ ≤ 10 := V.2.2.2.1
theorem VS.d (V : VS σ) : σ.1 91 6 = nI (nD σ) ∧ nD σ ≤ 60 := V.2.2.2.2.1
theorem VS.l (V : VS σ) : σ.1 91 7 = nI (nL σ) ∧ nL σ ≤ 40 := V.2.2.2.2.2.1
theorem VS.k (V : VS σ) : σ.1 91 8 = nI (nK σ) ∧ nK σ ≤ 20 := V.2.2.2.2.2.2.1
theorem VS.xy (V : VS σ) {p : Nat} (hp : p < nP σ) : ∃ x y, x ≤ 99 ∧ y ≤ 99 ∧ σ.1 92 p = nI x ∧ σ.1 93 p = nI y := V.2.2.2.2.2.2.2.1 p hp
theorem VS.de (V : VS σ) {d : Nat} (hd : d < nD σ) : (σ.1 98 d = nI (plc σ d) ∧ plc σ d < nP σ) ∧ (∃ f t, f ≤ t ∧ t ≤ 99999 ∧ σ.1 99 d = nI f ∧ σ.1 100 d = nI t) ∧ Hand σ d ∧ (σ.1 104 d = 0 ∨ σ.1 104 d = 1) ∧ (σ.1 105 d = 0 ∨ σ.1 105 d = 1) := V.2.2.2.2.2.2.2.2.1 d hd
theorem VS.s03 (V : VS σ) (j : Nat) : S03 (σ.1 107 j) ∧ S03 (σ.1 108 j) := V.2.2.2.2.2.2.2.2.2.2.1 j
theorem VS.br (V : VS σ) {a b : Nat} (ha : a < 60) (hb : b < 60) (h : bar σ a b = true) : bar σ b a = true ∧ a < nD σ ∧ b < nD σ := V.2.2.2.2.2.2.2.2.2.2.2.2.2.2 a b ha hb h
theorem VS.fr (V : VS σ) {d : Nat} (h1 : nD σ ≤ d) (h2 : d < 60) : σ.1 104 d = 0 ∧ σ.1 105 d = 0 ∧ ∀ m, m < 16 → lst σ d m = 0 ∧ pln σ d m = 0 := V.2.2.2.2.2.2.2.2.2.2.2.2.2.1 d h1 h2
end VSP
theorem al_lt {σ : Hp} {d : Nat} (h : al σ d = true) : d < nD σ := by
  simp only [al, Bool.and_eq_true, decide_eq_true_eq] at h
  exact h.1
/-- how the class's Deeds hold it -/
def CD (σ h : Hp) : Prop :=
  h.1 8 1 = nI (nD σ) ∧ (∀ d, d < nD σ → h.1 9 d = σ.1 98 d ∧ h.1 10 d = σ.1 99 d ∧ h.1 11 d = σ.1 100 d ∧ h.1 12 d = σ.1 101 d) ∧
  (∀ d, d < nD σ → h.1 13 d = (if al σ d then σ.1 102 d else -1) ∧ h.1 14 d = (if al σ d then σ.1 103 d else -1)) ∧
  (∀ k, k < 20 → ∀ d, hb (h.2.1 17 k) d = (al σ d && sol σ d && isof σ d (nI k))) ∧
  (∀ d, hb (h.2.1 8 11) d = (al σ d && sol σ d)) ∧ (∀ d, hb (h.2.1 8 12) d = (decide (d < nD σ) && dbt σ d)) ∧ (∀ d, hb (h.2.1 8 13) d = (decide (d < nD σ) && !al σ d)) ∧
  (∀ a, a < 60 → ∀ b, hb (h.2.1 15 a) b = (decide (a < nD σ) && decide (b < nD σ) && !decide (a = b) && apt σ a b)) ∧
  (∀ a, a < 60 → ∀ b, hb (h.2.1 16 a) b = (decide (b < 60) && bar σ a b)) ∧
  h.1 8 14 = σ.1 91 29 ∧ h.1 8 15 = σ.1 91 30
/-- the places, as the class's Land holds them -/
def CP (σ h : Hp) : Prop := h.1 1 1 = nI (nP σ) ∧ ∀ p, p < nP σ → h.1 2 p = σ.1 92 p ∧ h.1 3 p = σ.1 93 p ∧ h.1 4 p = σ.1 94 p
