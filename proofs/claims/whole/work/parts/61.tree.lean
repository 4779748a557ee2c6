/-! marks that hang together: trees (bundle of a mark, branches, distance) -/
abbrev Tr : Type := (Nat → Nat) × (Nat → Nat → Bool) × (Nat → Nat → Nat)
def tr0 : Tr := (fun m => m, fun _ _ => false, fun _ _ => 0)
def tieT (s : Tr) (x y : Nat) : Tr :=
  (fun m => if s.1 m = max (s.1 x) (s.1 y) then min (s.1 x) (s.1 y) else s.1 m,
   fun a b => s.2.1 a b || (decide (a = x ∧ b = y) || decide (a = y ∧ b = x)),
   fun r a => if s.1 r = s.1 a then s.2.2 r a else if s.1 r = s.1 x then s.2.2 r x + 1 + s.2.2 y a else s.2.2 r y + 1 + s.2.2 x a)
def JT (M : Nat) (s : Tr) : Prop :=
  (∀ m, m < M → s.1 m ≤ m ∧ s.1 (s.1 m) = s.1 m) ∧ (∀ a b, s.2.1 a b = true → a < M ∧ b < M ∧ s.1 a = s.1 b ∧ s.2.1 b a = true) ∧
  (∀ r a, r < M → a < M → s.1 r = s.1 a → r ≠ a → ∃ b, (s.2.1 a b = true ∧ s.2.2 r b + 1 = s.2.2 r a) ∧ ∀ c, s.2.1 a c = true → s.2.2 r c + 1 = s.2.2 r a → c = b) ∧
  (∀ r a b, r < M → s.2.1 a b = true → s.1 r = s.1 a → s.2.2 r a = s.2.2 r b + 1 ∨ s.2.2 r b = s.2.2 r a + 1) ∧
  ∀ a, a < M → s.2.2 a a = 0
section JTS
variable {M : Nat} {s : Tr}
theorem JT.bun (J : JT M s) (m : Nat) (hm : m < M) : s.1 m ≤ m ∧ s.1 (s.1 m) = s.1 m := J.1 m hm
theorem JT.sym (J : JT M s) (a b : Nat) (h : s.2.1 a b = true) : a < M ∧ b < M ∧ s.1 a = s.1 b ∧ s.2.1 b a = true := J.2.1 a b h
theorem JT.one (J : JT M s) (r a : Nat) (hr : r < M) (ha : a < M) (h : s.1 r = s.1 a) (n : r ≠ a) : ∃ b, (s.2.1 a b = true ∧ s.2.2 r b + 1 = s.2.2 r a) ∧ ∀ c, s.2.1 a c = true → s.2.2 r c + 1 = s.2.2 r a → c = b := J.2.2.1 r a hr ha h n
theorem JT.nxt (J : JT M s) (r a b : Nat) (hr : r < M) (h : s.2.1 a b = true) (h2 : s.1 r = s.1 a) : s.2.2 r a = s.2.2 r b + 1 ∨ s.2.2 r b = s.2.2 r a + 1 := J.2.2.2.1 r a b hr h h2
theorem JT.own (J : JT M s) (a : Nat) (ha : a < M) : s.2.2 a a = 0 := J.2.2.2.2 a ha
end JTS
theorem JT.zero (M : Nat) : JT M tr0 := ⟨fun m _ => ⟨Nat.le_refl _, rfl⟩, fun a b h => absurd h Bool.false_ne_true, fun r a _ _ h n => absurd h n, fun r a b _ h _ => absurd h Bool.false_ne_true, fun a _ => rfl⟩
section TIE
variable {M : Nat} {s : Tr} {x y : Nat}
theorem tie_b (m : Nat) : (tieT s x y).1 m = if s.1 m = max (s.1 x) (s.1 y) then min (s.1 x) (s.1 y) else s.1 m := rfl
theorem tie_eq (h : s.1 x ≠ s.1 y) (a b : Nat) : (tieT s x y).1 a = (tieT s x y).1 b ↔ s.1 a = s.1 b ∨ (s.1 a = s.1 x ∧ s.1 b = s.1 y) ∨ (s.1 a = s.1 y ∧ s.1 b = s.1 x) := by
  rw [tie_b, tie_b]
  split <;> split <;> omega
theorem tie_t (a b : Nat) : (tieT s x y).2.1 a b = true ↔ s.2.1 a b = true ∨ (a = x ∧ b = y) ∨ (a = y ∧ b = x) := by
  simp only [tieT, Bool.or_eq_true, decide_eq_true_eq]
theorem tie_d1 {r a : Nat} (h : s.1 r = s.1 a) : (tieT s x y).2.2 r a = s.2.2 r a := by
  simp only [tieT]; rw [if_pos h]
theorem tie_d2 {r a : Nat} (h : s.1 x ≠ s.1 y) (h1 : s.1 r = s.1 x) (h2 : s.1 a = s.1 y) : (tieT s x y).2.2 r a = s.2.2 r x + 1 + s.2.2 y a := by
  simp only [tieT]; rw [if_neg (by omega), if_pos h1]
theorem tie_d3 {r a : Nat} (h : s.1 x ≠ s.1 y) (h1 : s.1 r = s.1 y) (h2 : s.1 a = s.1 x) : (tieT s x y).2.2 r a = s.2.2 r y + 1 + s.2.2 x a := by
  simp only [tieT]; rw [if_neg (by omega), if_neg (by omega)]
theorem JT.tie (J : JT M s) (hx : x < M) (hy : y < M) (h : s.1 x ≠ s.1 y) : JT M (tieT s x y) := by
  refine ⟨fun m hm => ?_, fun a b hab => ?_, fun r a hr ha hra hne => ?_, fun r a b hr hab hra => ?_, fun a ha => by rw [tie_d1 rfl]; exact J.own a ha⟩
  · have h1 := J.bun m hm
    have h2 := J.bun x hx
    have h3 := J.bun y hy
    have hmin : s.1 (min (s.1 x) (s.1 y)) = min (s.1 x) (s.1 y) := by
      by_cases hq : s.1 x ≤ s.1 y
      · rw [Nat.min_eq_left hq]; exact h2.2
      · rw [Nat.min_eq_right (by omega)]; exact h3.2
    rw [tie_b, tie_b]
    by_cases q : s.1 m = max (s.1 x) (s.1 y)
    · rw [if_pos q, if_neg (by rw [hmin]; omega), hmin]
      exact ⟨by omega, rfl⟩
    · rw [if_neg q, if_neg (by rw [h1.2]; exact q)]
      exact h1
  · rw [tie_t] at hab
    rw [tie_eq h, tie_t]
    obtain q | ⟨rfl, rfl⟩ | ⟨rfl, rfl⟩ := hab
    · have := J.sym a b q
      exact ⟨this.1, this.2.1, Or.inl this.2.2.1, Or.inl this.2.2.2⟩
    · exact ⟨hx, hy, Or.inr (Or.inl ⟨rfl, rfl⟩), Or.inr (Or.inr ⟨rfl, rfl⟩)⟩
    · exact ⟨hy, hx, Or.inr (Or.inr ⟨rfl, rfl⟩), Or.inr (Or.inl ⟨rfl, rfl⟩)⟩
  · rw [tie_eq h] at hra
    have ex := J.own x hx
    have ey := J.own y hy
    obtain q | ⟨q1, q2⟩ | ⟨q1, q2⟩ := hra
    · obtain ⟨b, ⟨hb1, hb2⟩, hu⟩ := J.one r a hr ha q hne
      have hab := (J.sym a b hb1).2.2.1
      refine ⟨b, ⟨(tie_t a b).mpr (Or.inl hb1), by rw [tie_d1 (by omega), tie_d1 q]; exact hb2⟩, fun c hc hc2 => ?_⟩
      rw [tie_t] at hc
      obtain z | ⟨rfl, rfl⟩ | ⟨rfl, rfl⟩ := hc
      · have hac := (J.sym a c z).2.2.1
        rw [tie_d1 (by omega), tie_d1 q] at hc2
        exact hu c z hc2
      · rw [tie_d2 h (by omega) rfl, tie_d1 q] at hc2; omega
      · rw [tie_d3 h (by omega) rfl, tie_d1 q] at hc2; omega
    · by_cases hay : a = y
      · subst hay
        refine ⟨x, ⟨(tie_t _ _).mpr (Or.inr (Or.inr ⟨rfl, rfl⟩)), by rw [tie_d1 (by omega), tie_d2 h q1 q2]; omega⟩, fun c hc hc2 => ?_⟩
        rw [tie_t] at hc
        obtain z | ⟨rfl, rfl⟩ | ⟨z1, z2⟩ := hc
        · have hac := (J.sym a c z).2.2.1
          rw [tie_d2 h q1 (by omega), tie_d2 h q1 q2] at hc2; omega
        · omega
        · exact z2
      · obtain ⟨b, ⟨hb1, hb2⟩, hu⟩ := J.one y a hy ha (by omega) (fun z => hay z.symm)
        have hab := (J.sym a b hb1).2.2.1
        refine ⟨b, ⟨(tie_t a b).mpr (Or.inl hb1), by rw [tie_d2 h q1 (by omega), tie_d2 h q1 q2]; omega⟩, fun c hc hc2 => ?_⟩
        rw [tie_t] at hc
        obtain z | ⟨rfl, rfl⟩ | ⟨z1, z2⟩ := hc
        · have hac := (J.sym a c z).2.2.1
          rw [tie_d2 h q1 (by omega), tie_d2 h q1 q2] at hc2
          exact hu c z (by omega)
        · omega
        · exact absurd z1 hay
    · by_cases hax : a = x
      · subst hax
        refine ⟨y, ⟨(tie_t _ _).mpr (Or.inr (Or.inl ⟨rfl, rfl⟩)), by rw [tie_d1 (by omega), tie_d3 h q1 q2]; omega⟩, fun c hc hc2 => ?_⟩
        rw [tie_t] at hc
        obtain z | ⟨z1, z2⟩ | ⟨rfl, rfl⟩ := hc
        · have hac := (J.sym a c z).2.2.1
          rw [tie_d3 h q1 (by omega), tie_d3 h q1 q2] at hc2; omega
        · exact z2
        · omega
      · obtain ⟨b, ⟨hb1, hb2⟩, hu⟩ := J.one x a hx ha (by omega) (fun z => hax z.symm)
        have hab := (J.sym a b hb1).2.2.1
        refine ⟨b, ⟨(tie_t a b).mpr (Or.inl hb1), by rw [tie_d3 h q1 (by omega), tie_d3 h q1 q2]; omega⟩, fun c hc hc2 => ?_⟩
        rw [tie_t] at hc
        obtain z | ⟨z1, z2⟩ | ⟨rfl, rfl⟩ := hc
        · have hac := (J.sym a c z).2.2.1
          rw [tie_d3 h q1 (by omega), tie_d3 h q1 q2] at hc2
          exact hu c z (by omega)
        · exact absurd z1 hax
        · omega
  · rw [tie_t] at hab
    rw [tie_eq h] at hra
    have ex := J.own x hx
    have ey := J.own y hy
    obtain z | ⟨rfl, rfl⟩ | ⟨rfl, rfl⟩ := hab
    · have e := (J.sym a b z).2.2.1
      obtain q | ⟨q1, q2⟩ | ⟨q1, q2⟩ := hra
      · rw [tie_d1 q, tie_d1 (by omega)]; exact J.nxt r a b hr z q
      · rw [tie_d2 h q1 q2, tie_d2 h q1 (by omega)]
        have := J.nxt y a b hy z (by omega)
        omega
      · rw [tie_d3 h q1 q2, tie_d3 h q1 (by omega)]
        have := J.nxt x a b hx z (by omega)
        omega
    · obtain q | ⟨q1, q2⟩ | ⟨q1, q2⟩ := hra
      · rw [tie_d1 q, tie_d2 h q rfl]; omega
      · omega
      · rw [tie_d3 h q1 q2, tie_d1 q1]; omega
    · obtain q | ⟨q1, q2⟩ | ⟨q1, q2⟩ := hra
      · rw [tie_d1 q, tie_d3 h q rfl]; omega
      · rw [tie_d2 h q1 q2, tie_d1 q1]; omega
      · omega
end TIE
