/-! counts of pairs -/
def CP2 (P : Nat → Nat → Bool) (n : Nat) : Nat := fb_sm (fun a => fb_ct (P a) n) n
section PAIRS2
variable {P Q R : Nat → Nat → Bool} {n : Nat}
theorem c2_cong (h : ∀ a b, a < n → b < n → P a b = Q a b) : CP2 P n = CP2 Q n := fb_sm_cong fun a ha => fb_ct_cong fun b hb' => h a b ha hb'
theorem c2_or (h : ∀ a b, a < n → b < n → ¬ (P a b = true ∧ Q a b = true)) : CP2 (fun a b => P a b || Q a b) n = CP2 P n + CP2 Q n := by
  rw [CP2, CP2, CP2, ← fb_sm_add]
  exact fb_sm_cong fun a ha => fb_ct_or fun b hb' => h a b ha hb'
theorem c2_zero (h : ∀ a b, a < n → b < n → P a b = false) : CP2 P n = 0 := by
  have : CP2 P n = fb_sm (fun _ => 0) n := fb_sm_cong fun a ha => fb_ct_zero.mpr fun b hb' => h a b ha hb'
  rw [this, fb_sm_const, Nat.mul_zero]
theorem ct_only {i : Nat} (hi : i < n) : fb_ct (fun k => decide (k = i)) n = 1 := by
  have u := fb_ct_upd (fun _ => false) true (i := i) (n := n) hi
  have c1 : fb_ct (fun k => decide (k = i)) n = fb_ct (fun k => if k = i then true else false) n := fb_ct_cong fun k _ => by
    by_cases q : k = i
    · rw [if_pos q, decide_eq_true q]
    · rw [if_neg q, decide_eq_false q]
  have c2 : fb_ct (fun _ => false) n = 0 := fb_ct_zero.mpr fun _ _ => rfl
  rw [c1]
  rw [c2] at u
  simpa using u
theorem c2_one {a0 b0 : Nat} (ha : a0 < n) (hb' : b0 < n) : CP2 (fun a b => decide (a = a0 ∧ b = b0)) n = 1 := by
  have e : CP2 (fun a b => decide (a = a0 ∧ b = b0)) n = fb_sm (fun k => if k = a0 then 1 else 0) n := fb_sm_cong fun a _ => by
    by_cases q : a = a0
    · rw [if_pos q]
      rw [← ct_only hb']
      exact fb_ct_cong fun k _ => decide_eq_decide.mpr ⟨fun z => z.2, fun z => ⟨q, z⟩⟩
    · rw [if_neg q]
      exact fb_ct_zero.mpr fun k _ => decide_eq_false fun z => q z.1
  have u := fb_sm_upd (fun _ => 0) 1 (i := a0) (n := n) ha
  rw [fb_sm_const, Nat.mul_zero] at u
  rw [e]
  omega
theorem c2_step {a0 b0 : Nat} (ha : a0 < n) (hb' : b0 < n) (h0 : P a0 b0 = false) (h1 : Q a0 b0 = true) (h : ∀ a b, a < n → b < n → ¬ (a = a0 ∧ b = b0) → Q a b = P a b) : CP2 Q n = CP2 P n + 1 := by
  rw [← c2_one ha hb', ← c2_or (fun a b _ _ q => ?_)]
  · refine c2_cong fun a b h2 h3 => ?_
    by_cases q : a = a0 ∧ b = b0
    · rw [decide_eq_true q, Bool.or_true, q.1, q.2, h1]
    · rw [decide_eq_false q, Bool.or_false, h a b h2 h3 q]
  · obtain ⟨q1, q2⟩ := q
    have q2 := of_decide_eq_true q2
    rw [q2.1, q2.2, h0] at q1
    cases q1
end PAIRS2
def on (w : Nat → Nat → Int32) (m a b : Nat) : Nat := (otc (w a m) (w b m)).toNatClampNeg
def vn (w : Nat → Nat → Int32) (par : Nat → Int32) (m a b : Nat) : Nat := (ovr w par m a b).toNatClampNeg
theorem otc_n (x y : Int32) : otc x y = nI (otc x y).toNatClampNeg ∧ (otc x y).toNatClampNeg ≤ 3 := by
  have key : ∀ x y : Int32, (x = 1 ∨ x = 2) → (y = 1 ∨ y = 2) → otc x y = nI (otc x y).toNatClampNeg ∧ (otc x y).toNatClampNeg ≤ 3 := by
    intro x y hx hy
    obtain rfl | rfl := hx <;> obtain rfl | rfl := hy <;> exact ⟨by decide, by decide⟩
  by_cases q : (lkd x && lkd y) = true
  · have q1 := q
    simp only [lkd, Bool.and_eq_true, Bool.or_eq_true, decide_eq_true_eq] at q1
    exact key x y q1.1 q1.2
  · have : otc x y = 3 := by rw [otc, if_neg q]
    rw [this]; exact ⟨by decide, by decide⟩
theorem on_n (w : Nat → Nat → Int32) (m a b : Nat) : otc (w a m) (w b m) = nI (on w m a b) ∧ on w m a b ≤ 3 := otc_n _ _
theorem vn_n (w : Nat → Nat → Int32) (par : Nat → Int32) (m a b : Nat) : ovr w par m a b = nI (vn w par m a b) ∧ vn w par m a b ≤ 3 := by
  rw [vn]
  by_cases q : par m = -1
  · have : ovr w par m a b = 3 := by rw [ovr, if_pos q]
    rw [this]; exact ⟨by decide, by decide⟩
  · have : ovr w par m a b = otc (w a (par m).toNatClampNeg) (w b (par m).toNatClampNeg) := by rw [ovr, if_neg q]
    rw [this]; exact otc_n _ _
def sel (x y : Nat) : Bool := decide (x = 3) || decide (x = y)
/-- counted pairs of a kind with an outcome of a mark (3: any) and one of its parent (3: any) -/
def cnt (σ : Hp) (w : Nat → Nat → Int32) (par : Nat → Int32) (q : Bool) (m o v : Nat) : Nat := CP2 (fun a b => prb σ q a b && (decide (on w m a b < 3) && (sel o (on w m a b) && sel v (vn w par m a b)))) (nD σ)
def exq (σ : Hp) (w : Nat → Nat → Int32) (par : Nat → Int32) (q : Bool) (m o v : Nat) (a b : Nat) : Bool := prb σ q a b && (decide (on w m a b = o) && decide (vn w par m a b = v))
def pz (a b i m : Nat) (x y : Nat) : Bool := decide (x < a ∨ (x = a ∧ (y < b ∨ (y = b ∧ m < i))))
def ix (q m o v : Nat) : Nat := 192 * q + 12 * m + 4 * o + v
/-- pairs, as far as they are counted -/
def PK (σ : Hp) (w : Nat → Nat → Int32) (par : Nat → Int32) (a b i : Nat) (g : Hp) : Prop :=
  ∀ q m o v, q < 2 → m < nM σ → o < 3 → v < 4 → g.1 115 (ix q m o v) = nI (CP2 (fun x y => pz a b i m x y && exq σ w par (decide (q = 0)) m o v x y) (nD σ))
theorem PK.cg {σ : Hp} {w : Nat → Nat → Int32} {par : Nat → Int32} {a b i a' b' i' : Nat} {g : Hp} (K : PK σ w par a b i g)
    (h : ∀ q m x y, m < nM σ → x < nD σ → y < nD σ → (prb σ q x y = true → (pz a b i m x y = pz a' b' i' m x y))) : PK σ w par a' b' i' g := fun q m o v hq hm ho hv => by
  rw [K q m o v hq hm ho hv]
  congr 1
  refine c2_cong fun x y hx hy => ?_
  have := h (decide (q = 0)) m x y hm hx hy
  rw [exq]
  cases e : prb σ (decide (q = 0)) x y
  · rw [Bool.false_and, Bool.and_false, Bool.and_false]
  · rw [this e]
