/-! the ties, one after the other; the parent of a mark -/
def fixp (s : Tr) (m : Nat) : Bool := decide (s.1 m = m)
def sepT (s : Tr) (a b : Nat) : Bool := !decide (s.1 a = s.1 b)
def finT (W : Nat → Int32) (M : Nat) : Nat → Tr → Tr
  | 0, s => s
  | n + 1, s => if pkA W (sepT s) M M = -1 then s else finT W M n (tieT s ((pkA W (sepT s) M M).toNatClampNeg / 16) ((pkA W (sepT s) M M).toNatClampNeg % 16))
theorem ct_drop {p q : Nat → Bool} {n k : Nat} (h : ∀ j, j < n → p j = true → q j = true) (hk : k < n) (h1 : p k = false) (h2 : q k = true) : fb_ct p n < fb_ct q n := by
  have e := fb_ct_upd p true (i := k) (n := n) hk
  rw [h1, if_neg Bool.false_ne_true, if_pos rfl] at e
  have : fb_ct (fun j => if j = k then true else p j) n ≤ fb_ct q n := fb_ct_sub fun j hj => by
    by_cases z : j = k
    · subst z; intro _; exact h2
    · simp only [z, if_false]; exact h j hj
  omega
section FIN
variable {W : Nat → Int32} {M : Nat} {s : Tr}
theorem pk_some (hM : M ≤ 16) : pkA W (sepT s) M M = -1 ∨ ∃ x y, x < M ∧ y < M ∧ s.1 x ≠ s.1 y ∧ pkA W (sepT s) M M = nI (16 * x + y) :=
  pkA_in (P := fun f => f = -1 ∨ ∃ x y, x < M ∧ y < M ∧ s.1 x ≠ s.1 y ∧ f = nI (16 * x + y)) (Or.inl rfl) M fun c e h1 h2 h3 h4 => Or.inr ⟨c, e, h1, h3, by
    simp only [sepT, Bool.not_eq_true', decide_eq_false_iff_not] at h4; exact h4, rfl⟩
theorem tie_less (J : JT M s) {x y : Nat} (hx : x < M) (hy : y < M) (h : s.1 x ≠ s.1 y) : fb_ct (fixp (tieT s x y)) M < fb_ct (fixp s) M := by
  have h2 := J.bun x hx
  have h3 := J.bun y hy
  have hmin : s.1 (min (s.1 x) (s.1 y)) = min (s.1 x) (s.1 y) := by
    by_cases hq : s.1 x ≤ s.1 y
    · rw [Nat.min_eq_left hq]; exact h2.2
    · rw [Nat.min_eq_right (by omega)]; exact h3.2
  have hmax : s.1 (max (s.1 x) (s.1 y)) = max (s.1 x) (s.1 y) := by
    by_cases hq : s.1 x ≤ s.1 y
    · rw [Nat.max_eq_right hq]; exact h3.2
    · rw [Nat.max_eq_left (by omega)]; exact h2.2
  refine ct_drop (k := max (s.1 x) (s.1 y)) (fun j hj => ?_) (by omega) ?_ ?_
  · simp only [fixp, decide_eq_true_eq]
    rw [tie_b]
    by_cases q : s.1 j = max (s.1 x) (s.1 y)
    · rw [if_pos q]
      intro z
      rw [← z, hmin] at q
      omega
    · rw [if_neg q]; exact id
  · simp only [fixp, decide_eq_false_iff_not]
    rw [tie_b, if_pos hmax]
    omega
  · simp only [fixp, decide_eq_true_eq]; exact hmax
theorem finT_J (hM : M ≤ 16) : ∀ (n : Nat) (s : Tr), JT M s → JT M (finT W M n s)
  | 0, _, J => J
  | n + 1, s, J => by
    rw [finT]
    obtain q | ⟨x, y, hx, hy, hne, q⟩ := pk_some (W := W) (s := s) hM
    · rw [if_pos q]; exact J
    · rw [if_neg (by rw [q]; exact fun z => nI_pos (show 16 * x + y < 2 ^ 31 by omega) (by rw [z]; decide)), q, nI_clamp (by omega)]
      have e1 : (16 * x + y) / 16 = x := by omega
      have e2 : (16 * x + y) % 16 = y := by omega
      rw [e1, e2]
      exact finT_J hM n _ (J.tie hx hy hne)
/-- more rounds than bundles change nothing -/
theorem finT_en (hM : M ≤ 16) : ∀ (n k : Nat) (s : Tr), JT M s → fb_ct (fixp s) M ≤ n → n ≤ k → finT W M n s = finT W M k s
  | n, k, s, J, hn, hk => by
    obtain q | ⟨x, y, hx, hy, hne, q⟩ := pk_some (W := W) (s := s) hM
    · cases n with
      | zero => cases k with
        | zero => rfl
        | succ k => rw [finT, finT, if_pos q]
      | succ n => cases k with
        | zero => omega
        | succ k => rw [finT, finT, if_pos q, if_pos q]
    · have lt := tie_less J hx hy hne
      cases n with
      | zero => omega
      | succ n => cases k with
        | zero => omega
        | succ k =>
          rw [finT, finT, if_neg (by rw [q]; exact fun z => nI_pos (show 16 * x + y < 2 ^ 31 by omega) (by rw [z]; decide)), if_neg (by rw [q]; exact fun z => nI_pos (show 16 * x + y < 2 ^ 31 by omega) (by rw [z]; decide)), q, nI_clamp (by omega)]
          have e1 : (16 * x + y) / 16 = x := by omega
          have e2 : (16 * x + y) % 16 = y := by omega
          rw [e1, e2]
          exact finT_en hM n k _ (J.tie hx hy hne) (by omega) (by omega)
theorem nI_neg {n : Nat} (h : n < 2 ^ 31) : ¬ nI n = -1 := fun z => nI_pos h (by rw [z]; decide)
end FIN
def pickT (p : Nat → Bool) : Nat → Int32
  | 0 => -1
  | n + 1 => if p n then nI n else pickT p n
theorem pickT_no {p : Nat → Bool} : ∀ {n : Nat}, (∀ k, k < n → p k = false) → pickT p n = -1
  | 0, _ => rfl
  | n + 1, h => by
    rw [pickT, h n (Nat.lt_succ_self n), if_neg (by decide)]
    exact pickT_no fun k hk => h k (by omega)
theorem pickT_yes {p : Nat → Bool} {b : Nat} (hb' : p b = true) (hu : ∀ c, p c = true → c = b) : ∀ {n : Nat}, b < n → pickT p n = nI b
  | 0, h => absurd h (Nat.not_lt_zero _)
  | n + 1, h => by
    rw [pickT]
    by_cases q : p n = true
    · rw [if_pos q, hu n q]
    · rw [if_neg q]
      refine pickT_yes hb' hu ?_
      have : n ≠ b := fun z => q (by rw [z]; exact hb')
      omega
/-- the neighbour that is nearer to the least mark of the tree -/
def paT (s : Tr) (m : Nat) : Int32 := pickT (fun b => s.2.1 m b && decide (s.2.2 (s.1 m) b + 1 = s.2.2 (s.1 m) m)) 16
section PAT
variable {M : Nat} {s : Tr} {m b : Nat}
theorem paT_yes (hM : M ≤ 16) (J : JT M s) (hm : m < M) (hb1 : s.2.1 m b = true) (hb2 : s.2.2 (s.1 m) b + 1 = s.2.2 (s.1 m) m) : paT s m = nI b := by
  have hB := J.bun m hm
  have hne : s.1 m ≠ m := fun z => by rw [z, J.own m hm] at hb2; omega
  obtain ⟨c, ⟨hc1, hc2⟩, hu⟩ := J.one (s.1 m) m (by omega) hm hB.2 hne
  have e := hu b hb1 hb2
  subst e
  refine pickT_yes (by rw [hb1, decide_eq_true hb2]; rfl) (fun c hc => ?_) (Nat.lt_of_lt_of_le (J.sym m b hb1).2.1 hM)
  simp only [Bool.and_eq_true, decide_eq_true_eq] at hc
  exact hu c hc.1 hc.2
theorem paT_no (J : JT M s) (hm : m < M) (e : s.1 m = m) : paT s m = -1 := pickT_no fun k _ => by
  rw [e, J.own m hm, decide_eq_false (by omega), Bool.and_false]
theorem paT_ex (hM : M ≤ 16) (J : JT M s) (hm : m < M) (e : s.1 m ≠ m) : ∃ b, b < M ∧ s.2.1 m b = true ∧ s.2.2 (s.1 m) b + 1 = s.2.2 (s.1 m) m ∧ s.1 b = s.1 m ∧ paT s m = nI b := by
  have hB := J.bun m hm
  obtain ⟨c, ⟨hc1, hc2⟩, _⟩ := J.one (s.1 m) m (by omega) hm hB.2 e
  have hs := J.sym m c hc1
  exact ⟨c, hs.2.1, hc1, hc2, hs.2.2.1.symm, paT_yes hM J hm hc1 hc2⟩
/-- no mark is further from the least one of its tree than there are marks -/
theorem dT_lt (J : JT M s) (hm : m < M) : s.2.2 (s.1 m) m < M := by
  have hB := J.bun m hm
  have go : ∀ n, ∀ a, a < M → s.1 a = s.1 m → s.2.2 (s.1 m) a = n → n + 1 ≤ fb_ct (fun k => decide (s.1 k = s.1 m) && decide (s.2.2 (s.1 m) k ≤ n)) M := by
    intro n
    induction n with
    | zero =>
      intro a ha e1 e2
      exact fb_ct_pos.mpr ⟨a, ha, by rw [decide_eq_true e1, decide_eq_true (by omega)]; rfl⟩
    | succ n ih =>
      intro a ha e1 e2
      have hne : s.1 m ≠ a := fun z => by
        have := J.own a ha
        rw [z] at e2; omega
      obtain ⟨c, ⟨hc1, hc2⟩, _⟩ := J.one (s.1 m) a (by omega) ha (by rw [hB.2, e1]) hne
      have hs := J.sym a c hc1
      have := ih c hs.2.1 (by omega) (by omega)
      refine Nat.lt_of_le_of_lt this (ct_drop (k := a) (fun j _ => ?_) ha ?_ ?_)
      · simp only [Bool.and_eq_true, decide_eq_true_eq]
        exact fun z => ⟨z.1, by omega⟩
      · rw [decide_eq_false (p := s.2.2 (s.1 m) a ≤ n) (by omega), Bool.and_false]
      · rw [decide_eq_true e1, decide_eq_true (p := s.2.2 (s.1 m) a ≤ n + 1) (by omega)]; rfl
  exact Nat.lt_of_lt_of_le (go _ m hm rfl rfl) (fb_ct_le _ _)
end PAT
