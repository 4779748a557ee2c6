/-! deeds joined: the machine -/
section JOINP
variable {σ : Hp} {w : Nat → Nat → Int32}
theorem lg_le {v : Nat} (h1 : 1 ≤ v) (h : v < 4096) : lg v ≤ 768 := by
  have hne : v ≠ 0 := by omega
  have hl : Nat.log2 v < 12 := (Nat.log2_lt hne).mpr h
  have h2 : 2 ^ Nat.log2 v ≤ v := Nat.log2_self_le hne
  have h3 : v < 2 ^ (Nat.log2 v + 1) := Nat.lt_log2_self
  have hp : 0 < 2 ^ Nat.log2 v := Nat.two_pow_pos _
  rw [Nat.pow_succ] at h3
  have : 64 * (v - 2 ^ Nat.log2 v) / 2 ^ Nat.log2 v ≤ 64 := by
    generalize 2 ^ Nat.log2 v = p at h2 h3 hp ⊢
    exact Nat.div_le_of_le_mul (by omega)
  unfold lg
  omega
/-- between -b and b -/
def Bnd (x : Int32) (b : Nat) : Prop := -(b : Int) ≤ x.toInt ∧ x.toInt ≤ b
theorem Bnd.add {x y : Int32} {a b : Nat} (h1 : Bnd x a) (h2 : Bnd y b) (hs : a + b < 2 ^ 31) : Bnd (x + y) (a + b) := by
  unfold Bnd at *
  rw [fb_addI (by omega) (by omega)]
  omega
theorem Bnd.sub {x y : Int32} {a b : Nat} (h1 : Bnd x a) (h2 : Bnd y b) (hs : a + b < 2 ^ 31) : Bnd (x - y) (a + b) := by
  unfold Bnd at *
  rw [fb_subI (by omega) (by omega)]
  omega
theorem Bnd.nI {n b : Nat} (h : n ≤ b) (hb' : b < 2 ^ 31) : Bnd (nI n) b := by
  unfold Bnd
  rw [nI_toInt (by omega)]
  omega
theorem Bnd.mono {x : Int32} {a b : Nat} (h : Bnd x a) (hab : a ≤ b) : Bnd x b := by
  unfold Bnd at *; omega
theorem vlu_b (V : VS σ) {par : Nat → Int32} {m o v : Nat} : Bnd (vlu σ w par m o v) 3072 := by
  have l : ∀ q o k, k ≤ 3 → 1 ≤ k → lg (cnt σ w par q m o v + k) ≤ 768 := fun q o k h1 h2 => lg_le (by omega) (by have := cnt_lt (w := w) (par := par) V q m o v; omega)
  exact (((Bnd.nI (l true o 1 (by omega) (by omega)) (by decide)).sub (Bnd.nI (l true 3 3 (by omega) (by omega)) (by decide)) (by decide)).sub (Bnd.nI (l false o 1 (by omega) (by omega)) (by decide)) (by decide)).add (Bnd.nI (l false 3 3 (by omega) (by omega)) (by decide)) (by decide)
theorem pwn_b (V : VS σ) {par : Nat → Int32} {u : Nat → Nat → Int32} {a b : Nat} : ∀ n, n ≤ 16 → Bnd (pwn σ w par u a b n) (3072 * n)
  | 0, _ => by
    show Bnd 0 0
    exact ⟨by decide, by decide⟩
  | n + 1, h => by
    have ih := pwn_b V (par := par) (u := u) (a := a) (b := b) n (by omega)
    have : Bnd (mwv σ w par u n a b) 3072 := by
      rw [mwv]
      split
      · exact ⟨by decide, by decide⟩
      · exact vlu_b V
    have := ih.add this (by omega)
    rw [pwn]
    exact this.mono (by omega)
theorem pwv_b (V : VS σ) {u : Nat → Nat → Int32} {a b : Nat} : Bnd (pwv σ w u a b) 50000 := by
  have hM := V.m.2
  exact (pwn_b V _ hM).mono (by omega)
abbrev JG : Type := (Nat → Nat) × (Nat → Nat → Int32)
def jg0 (σ : Hp) (w : Nat → Nat → Int32) : JG := (fun d => d, fun a b => pwv σ w w a b)
def uniJ (s : JG) (o t : Nat) : JG := (fun d => if s.1 d = t then o else s.1 d, fun a b => if a = o then s.2 o b + s.2 t b else if b = o then s.2 o a + s.2 t a else s.2 a b)
def hdJ (σ : Hp) (s : JG) (a : Nat) : Bool := stn σ a && decide (s.1 a = a)
def bdP (σ : Hp) (s : JG) (a b : Nat) : Prop := ∃ i j, stn σ i = true ∧ stn σ j = true ∧ s.1 i = a ∧ s.1 j = b ∧ brd σ i j = true
def bdJ (σ : Hp) (s : JG) (a b : Nat) : Bool := decide (0 < CP2 (fun i j => (stn σ i && stn σ j) && ((decide (s.1 i = a) && decide (s.1 j = b)) && brd σ i j)) (nD σ))
theorem c2_pos {P : Nat → Nat → Bool} {n : Nat} : 0 < CP2 P n ↔ ∃ a b, a < n ∧ b < n ∧ P a b = true := by
  refine ⟨fun z => Classical.byContradiction fun q => ?_, fun ⟨a, b, ha, hb', e⟩ => ?_⟩
  · have : CP2 P n = 0 := c2_zero fun a b ha hb' => by
      cases e : P a b
      · rfl
      · exact absurd ⟨a, b, ha, hb', e⟩ q
    omega
  · have h1 : 0 < fb_ct (P a) n := fb_ct_pos.mpr ⟨b, hb', e⟩
    have h2 := fb_sm_part (fun a => fb_ct (P a) n) ha
    unfold CP2
    omega
theorem bdJ_p {s : JG} {a b : Nat} : bdJ σ s a b = true ↔ bdP σ s a b := by
  rw [bdJ, decide_eq_true_eq, c2_pos]
  refine ⟨fun ⟨i, j, _, _, e⟩ => ?_, fun ⟨i, j, h1, h2, h3, h4, h5⟩ => ⟨i, j, (stn_al h1).2, (stn_al h2).2, ?_⟩⟩
  · simp only [Bool.and_eq_true, decide_eq_true_eq] at e
    exact ⟨i, j, e.1.1, e.1.2, e.2.1.1, e.2.1.2, e.2.2⟩
  · simp only [Bool.and_eq_true, decide_eq_true_eq]
    exact ⟨⟨h1, h2⟩, ⟨h3, h4⟩, h5⟩
theorem bd_sym (V : VS σ) {s : JG} {a b : Nat} : bdJ σ s a b = bdJ σ s b a := by
  have go : ∀ a b, bdP σ s a b → bdP σ s b a := fun a b ⟨i, j, h1, h2, h3, h4, h5⟩ => ⟨j, i, h2, h1, h4, h3, by rw [brd_sym V (stn_al h2).2 (stn_al h1).2]; exact h5⟩
  cases e : bdJ σ s a b
  · cases e2 : bdJ σ s b a
    · rfl
    · rw [bdJ_p.mpr (go _ _ (bdJ_p.mp e2))] at e; cases e
  · exact (bdJ_p.mpr (go _ _ (bdJ_p.mp e))).symm
def szJ (σ : Hp) (s : JG) (a : Nat) : Nat := fb_ct (fun i => stn σ i && decide (s.1 i = a)) (nD σ)
/-- what holds of the groups -/
def JJ (σ : Hp) (s : JG) : Prop :=
  (∀ d, stn σ d = true → stn σ (s.1 d) = true ∧ s.1 (s.1 d) = s.1 d ∧ s.1 d ≤ d) ∧
  (∀ a b, hdJ σ s a = true → hdJ σ s b = true → a ≠ b → s.2 a b = s.2 b a ∧ Bnd (s.2 a b) (50000 * (szJ σ s a * szJ σ s b)))
theorem sz_le (s : JG) (a : Nat) : szJ σ s a ≤ nD σ := fb_ct_le _ _
theorem hd_1 {s : JG} {a : Nat} (h : hdJ σ s a = true) : stn σ a = true ∧ s.1 a = a := by
  simpa only [hdJ, Bool.and_eq_true, decide_eq_true_eq] using h
theorem jg0_J (V : VS σ) : JJ σ (jg0 σ w) := by
  refine ⟨fun d hd => ⟨hd, rfl, Nat.le_refl _⟩, fun a b ha hb' hab => ⟨pwv_sym a b, ?_⟩⟩
  have one : ∀ a, hdJ σ (jg0 σ w) a = true → 1 ≤ szJ σ (jg0 σ w) a := fun a ha => by
    have h1 := hd_1 ha
    exact fb_ct_pos.mpr ⟨a, (stn_al h1.1).2, by rw [h1.1, decide_eq_true h1.2]; rfl⟩
  have := Nat.mul_le_mul (one a ha) (one b hb')
  exact (pwv_b V).mono (by omega)
section UNI
variable {s : JG} {o t : Nat}
theorem uni_hd (J : JJ σ s) (ho : hdJ σ s o = true) (ht : hdJ σ s t = true) (hot : o < t) (a : Nat) : hdJ σ (uniJ s o t) a = (hdJ σ s a && !decide (a = t)) := by
  have h1 := hd_1 ho
  have h2 := hd_1 ht
  show (stn σ a && decide ((if s.1 a = t then o else s.1 a) = a)) = _
  by_cases q : s.1 a = t
  · rw [if_pos q]
    have n1 : hdJ σ s a = true → a = t := fun z => by have := (hd_1 z).2; omega
    cases e : stn σ a
    · rw [hdJ, e]; rfl
    · have le := (J.1 a e).2.2
      rw [decide_eq_false (by omega)]
      cases e2 : hdJ σ s a
      · rfl
      · rw [decide_eq_true (n1 e2)]; rfl
  · rw [if_neg q]
    have : ¬ a = t := fun z => q (by rw [z]; exact h2.2)
    rw [decide_eq_false this, Bool.not_false, Bool.and_true]; rfl
theorem uni_sz (ho : hdJ σ s o = true) (ht : hdJ σ s t = true) (hot : o < t) (a : Nat) : szJ σ (uniJ s o t) a = if a = o then szJ σ s o + szJ σ s t else if a = t then 0 else szJ σ s a := by
  by_cases h1 : a = o
  · rw [if_pos h1, szJ, szJ, szJ, ← fb_ct_or fun k _ z => ?_]
    · refine fb_ct_cong fun k _ => ?_
      show (stn σ k && decide ((if s.1 k = t then o else s.1 k) = a)) = _
      rw [h1]
      cases stn σ k
      · rfl
      · rw [Bool.true_and, Bool.true_and, Bool.true_and]
        by_cases q : s.1 k = t
        · rw [if_pos q, decide_eq_true rfl, decide_eq_true q, Bool.or_true]
        · rw [if_neg q, decide_eq_false q, Bool.or_false]
    · obtain ⟨z1, z2⟩ := z
      simp only [Bool.and_eq_true, decide_eq_true_eq] at z1 z2
      omega
  · rw [if_neg h1]
    by_cases h2 : a = t
    · rw [if_pos h2]
      refine fb_ct_zero.mpr fun k _ => ?_
      show (stn σ k && decide ((if s.1 k = t then o else s.1 k) = a)) = false
      have : ¬ (if s.1 k = t then o else s.1 k) = a := by split <;> omega
      rw [decide_eq_false this, Bool.and_false]
    · rw [if_neg h2]
      refine fb_ct_cong fun k _ => ?_
      show (stn σ k && decide ((if s.1 k = t then o else s.1 k) = a)) = _
      by_cases q : s.1 k = t
      · rw [if_pos q, decide_eq_false (p := o = a) (by omega), decide_eq_false (p := s.1 k = a) (by omega)]
      · rw [if_neg q]
theorem uni_bd (ho : hdJ σ s o = true) (ht : hdJ σ s t = true) (hot : o < t) {a b : Nat} (ha : a ≠ t) (hb' : b ≠ t) (hab : a ≠ b) : bdJ σ (uniJ s o t) a b = if a = o then bdJ σ s o b || bdJ σ s t b else if b = o then bdJ σ s a o || bdJ σ s a t else bdJ σ s a b := by
  have key : bdP σ (uniJ s o t) a b ↔ (if a = o then bdP σ s o b ∨ bdP σ s t b else if b = o then bdP σ s a o ∨ bdP σ s a t else bdP σ s a b) := by
    have u : ∀ k c, (uniJ s o t).1 k = c ↔ (s.1 k = t ∧ o = c) ∨ (s.1 k ≠ t ∧ s.1 k = c) := fun k c => by
      show (if s.1 k = t then o else s.1 k) = c ↔ _
      split <;> omega
    by_cases h1 : a = o
    · rw [if_pos h1]
      refine ⟨fun ⟨i, j, p1, p2, p3, p4, p5⟩ => ?_, fun z => ?_⟩
      · rw [u] at p3 p4
        by_cases q : s.1 i = t
        · exact Or.inr ⟨i, j, p1, p2, q, by omega, p5⟩
        · exact Or.inl ⟨i, j, p1, p2, by omega, by omega, p5⟩
      · obtain ⟨i, j, p1, p2, p3, p4, p5⟩ | ⟨i, j, p1, p2, p3, p4, p5⟩ := z
        · exact ⟨i, j, p1, p2, by rw [u]; omega, by rw [u]; omega, p5⟩
        · exact ⟨i, j, p1, p2, by rw [u]; omega, by rw [u]; omega, p5⟩
    · rw [if_neg h1]
      by_cases h2 : b = o
      · rw [if_pos h2]
        refine ⟨fun ⟨i, j, p1, p2, p3, p4, p5⟩ => ?_, fun z => ?_⟩
        · rw [u] at p3 p4
          by_cases q : s.1 j = t
          · exact Or.inr ⟨i, j, p1, p2, by omega, q, p5⟩
          · exact Or.inl ⟨i, j, p1, p2, by omega, by omega, p5⟩
        · obtain ⟨i, j, p1, p2, p3, p4, p5⟩ | ⟨i, j, p1, p2, p3, p4, p5⟩ := z
          · exact ⟨i, j, p1, p2, by rw [u]; omega, by rw [u]; omega, p5⟩
          · exact ⟨i, j, p1, p2, by rw [u]; omega, by rw [u]; omega, p5⟩
      · rw [if_neg h2]
        refine ⟨fun ⟨i, j, p1, p2, p3, p4, p5⟩ => ?_, fun ⟨i, j, p1, p2, p3, p4, p5⟩ => ⟨i, j, p1, p2, by rw [u]; omega, by rw [u]; omega, p5⟩⟩
        rw [u] at p3 p4
        exact ⟨i, j, p1, p2, by omega, by omega, p5⟩
  have bb : ∀ (x y : Bool), (x = true ↔ y = true) → x = y := by decide
  refine bb _ _ ?_
  rw [bdJ_p, key]
  split
  · rw [Bool.or_eq_true, bdJ_p, bdJ_p]
  · split
    · rw [Bool.or_eq_true, bdJ_p, bdJ_p]
    · rw [bdJ_p]
theorem uni_J (V : VS σ) (J : JJ σ s) (ho : hdJ σ s o = true) (ht : hdJ σ s t = true) (hot : o < t) : JJ σ (uniJ s o t) := by
  have hD := V.d.2
  have h1 := hd_1 ho
  have h2 := hd_1 ht
  refine ⟨fun d hd => ?_, fun a b ha hb' hab => ?_⟩
  · obtain ⟨p1, p2, p3⟩ := J.1 d hd
    show stn σ (if s.1 d = t then o else s.1 d) = true ∧ (if s.1 (if s.1 d = t then o else s.1 d) = t then o else s.1 (if s.1 d = t then o else s.1 d)) = (if s.1 d = t then o else s.1 d) ∧ (if s.1 d = t then o else s.1 d) ≤ d
    by_cases q : s.1 d = t
    · rw [if_pos q, if_neg (by omega)]
      exact ⟨h1.1, h1.2, by omega⟩
    · rw [if_neg q, if_neg (by omega)]
      exact ⟨p1, p2, p3⟩
  · rw [uni_hd J ho ht hot, Bool.and_eq_true, Bool.not_eq_true', decide_eq_false_iff_not] at ha hb'
    obtain ⟨ha, hat⟩ := ha
    obtain ⟨hb', hbt⟩ := hb'
    have za := sz_le (σ := σ) s a
    have zb := sz_le (σ := σ) s b
    have zo := sz_le (σ := σ) s o
    have zt := sz_le (σ := σ) s t
    have tot : szJ σ s o + szJ σ s t ≤ nD σ := by
      have := sz_le (σ := σ) (uniJ s o t) o
      rw [uni_sz ho ht hot, if_pos rfl] at this
      exact this
    have big : ∀ c, szJ σ s c ≤ nD σ → 50000 * (szJ σ s o * szJ σ s c) + 50000 * (szJ σ s t * szJ σ s c) < 2 ^ 31 ∧ 50000 * (szJ σ s o * szJ σ s c) + 50000 * (szJ σ s t * szJ σ s c) = 50000 * ((szJ σ s o + szJ σ s t) * szJ σ s c) := fun c hc => by
      have e : 50000 * (szJ σ s o * szJ σ s c) + 50000 * (szJ σ s t * szJ σ s c) = 50000 * ((szJ σ s o + szJ σ s t) * szJ σ s c) := by rw [Nat.add_mul, Nat.mul_add]
      have le : (szJ σ s o + szJ σ s t) * szJ σ s c ≤ 60 * 60 := Nat.mul_le_mul (by omega) (by omega)
      exact ⟨by rw [e]; omega, e⟩
    show (if a = o then s.2 o b + s.2 t b else if b = o then s.2 o a + s.2 t a else s.2 a b) = (if b = o then s.2 o a + s.2 t a else if a = o then s.2 o b + s.2 t b else s.2 b a) ∧ Bnd (if a = o then s.2 o b + s.2 t b else if b = o then s.2 o a + s.2 t a else s.2 a b) _
    rw [uni_sz ho ht hot, uni_sz ho ht hot]
    by_cases e1 : a = o
    · subst e1
      have e2 : ¬ b = a := fun z => hab z.symm
      rw [if_pos rfl, if_neg e2, if_pos rfl, if_pos rfl, if_neg e2, if_neg hbt]
      refine ⟨rfl, ?_⟩
      have x1 := (J.2 a b ha hb' hab).2
      have x2 := (J.2 t b ht hb' (fun z => hbt z.symm)).2
      have := x1.add x2 (big b zb).1
      rw [(big b zb).2] at this
      exact this
    · rw [if_neg e1]
      by_cases e2 : b = o
      · subst e2
        rw [if_pos rfl, if_pos rfl, if_neg e1, if_neg hat, if_pos rfl]
        refine ⟨rfl, ?_⟩
        have x1 := (J.2 b a hb' ha (fun z => e1 z.symm)).2
        have x2 := (J.2 t a ht ha (fun z => hat z.symm)).2
        have := x1.add x2 (big a za).1
        rw [(big a za).2, Nat.mul_comm (szJ σ s b + szJ σ s t)] at this
        exact this
      · rw [if_neg e2, if_neg e2, if_neg e1, if_neg e1, if_neg hat, if_neg e2, if_neg hbt]
        exact J.2 a b ha hb' hab
end UNI
end JOINP
