/-! tallies of a mark, worths -/
section TALLIED
variable {σ h : Hp} {d S : Nat} {X : String → Hp → Prop} {w : Nat → Nat → Int32} {par : Nat → Int32}
def pm (σ : Hp) (w : Nat → Nat → Int32) (par : Nat → Int32) (q : Bool) (m o v a b : Nat) : Bool := prb σ q a b && (decide (on w m a b < 3) && (sel o (on w m a b) && sel v (vn w par m a b)))
def cnp (σ : Hp) (w : Nat → Nat → Int32) (par : Nat → Int32) (q : Bool) (m o v i : Nat) : Nat := fb_sm (fun a => fb_ct (pm σ w par q m o v a) (nD σ)) i
theorem cnp_end (q : Bool) (m o v : Nat) : cnp σ w par q m o v (nD σ) = cnt σ w par q m o v := rfl
theorem cnp_s (q : Bool) (m o v i : Nat) : cnp σ w par q m o v (i + 1) = cnp σ w par q m o v i + fb_ct (pm σ w par q m o v i) (nD σ) := rfl
theorem tc_n {z : Int64} {P : Nat → Bool} (hD : nD σ ≤ 60) (hz : ∀ k, k < 60 → hb z k = P k) (h6 : ∀ k, 60 ≤ k → hb z k = false) (hP : ∀ k, P k = true → k < nD σ) : cntb z = fb_ct P (nD σ) := by
  unfold cntb
  rw [ct64 (p := hb z) (n := nD σ) (by omega) fun k hk => ?_]
  · exact fb_ct_cong fun k hk => hz k (by omega)
  · by_cases h60 : k < 60
    · rw [hz k h60]
      exact Bool.eq_false_iff.mpr fun q => by have := hP k q; omega
    · exact h6 k (by omega)
theorem prb_lt {q : Bool} {a b : Nat} (h : prb σ q a b = true) : ctd σ a = true ∧ ctd σ b = true ∧ a < nD σ ∧ b < nD σ := by
  simp only [prb, Bool.and_eq_true] at h
  exact ⟨h.1, h.2.1.1, (ctd_le h.1).2.2, (ctd_le h.2.1.1).2.2⟩
theorem on_l {m a b l : Nat} (ha : lkd (w a m) = true) (hl : l = if w a m = 2 then 1 else 0) : on w m a b = if lkd (w b m) then (if w b m = 2 then l + 1 else l) else 3 := by
  rw [on]
  cases hb' : lkd (w b m)
  · rw [otc_off (Or.inr hb')]; rfl
  · obtain e | e := lkd_12 ha
    · rw [e] at hl ⊢
      rw [otc_1 hb', hl]
      rfl
    · rw [e] at hl ⊢
      rw [otc_2 hb', hl]
      rfl
/-- what one deed brings to the tallies -/
theorem tl_row {q : Bool} {m v a l : Nat} {x TH : Int64} (V : VS σ) (hca : ctd σ a = true) (hla : lkd (w a m) = true) (hl : l = if w a m = 2 then 1 else 0) (hx : ∀ k, hb x k = (prb σ q a k && (decide (k < 60) && (lkd (w k m) && sel v (vn w par m a k))))) (ht : ∀ k, k < 60 → hb TH k = decide (w k m = 2)) (o : Nat) (ho : o < 4) :
    fb_ct (pm σ w par q m o v a) (nD σ) = if o = l then cntb (x &&& (TH ^^^ (-1))) else if o = l + 1 then cntb (x &&& TH) else if o = 3 then cntb (x &&& (TH ^^^ (-1))) + cntb (x &&& TH) else 0 := by
  have hD := V.d.2
  have l2 : l < 2 := by rw [hl]; split <;> omega
  have e1 : cntb (x &&& (TH ^^^ (-1))) = fb_ct (fun k => prb σ q a k && ((lkd (w k m) && sel v (vn w par m a k)) && !decide (w k m = 2))) (nD σ) := by
    refine tc_n hD (fun k hk => ?_) (fun k hk => ?_) fun k hk => ?_
    · rw [hb_and, hx, hb_not (by omega), ht k hk, decide_eq_true hk, Bool.true_and, Bool.and_assoc]
    · rw [hb_and, hx, decide_eq_false (by omega), Bool.false_and, Bool.and_false, Bool.false_and]
    · simp only [Bool.and_eq_true] at hk; exact (prb_lt hk.1).2.2.2
  have e2 : cntb (x &&& TH) = fb_ct (fun k => prb σ q a k && ((lkd (w k m) && sel v (vn w par m a k)) && decide (w k m = 2))) (nD σ) := by
    refine tc_n hD (fun k hk => ?_) (fun k hk => ?_) fun k hk => ?_
    · rw [hb_and, hx, ht k hk, decide_eq_true hk, Bool.true_and, Bool.and_assoc]
    · rw [hb_and, hx, decide_eq_false (by omega), Bool.false_and, Bool.and_false, Bool.false_and]
    · simp only [Bool.and_eq_true] at hk; exact (prb_lt hk.1).2.2.2
  have ep : ∀ k, pm σ w par q m o v a k = (prb σ q a k && (lkd (w k m) && (sel o (if w k m = 2 then l + 1 else l) && sel v (vn w par m a k)))) := fun k => by
    rw [pm, on_l (b := k) hla hl]
    cases lkd (w k m)
    · rw [if_neg (by decide), decide_eq_false (by omega)]; rfl
    · rw [if_pos rfl]
      have : decide ((if w k m = 2 then l + 1 else l) < 3) = true := decide_eq_true (by split <;> omega)
      rw [this]
  by_cases h1 : o = l
  · rw [if_pos h1, e1]
    refine fb_ct_cong fun k _ => ?_
    rw [ep k, sel_n (by omega)]
    by_cases e : w k m = 2
    · rw [if_pos e, decide_eq_true e, decide_eq_false (by omega)]; simp
    · rw [if_neg e, decide_eq_false e, decide_eq_true h1]; simp
  · rw [if_neg h1]
    by_cases h2 : o = l + 1
    · rw [if_pos h2, e2]
      refine fb_ct_cong fun k _ => ?_
      rw [ep k, sel_n (by omega)]
      by_cases e : w k m = 2
      · rw [if_pos e, decide_eq_true e, decide_eq_true h2]; simp
      · rw [if_neg e, decide_eq_false e, decide_eq_false h1]; simp
    · rw [if_neg h2]
      by_cases h3 : o = 3
      · rw [if_pos h3, e1, e2, ← fb_ct_or fun k _ z => ?_]
        · refine fb_ct_cong fun k _ => ?_
          rw [ep k, h3, sel_3]
          cases decide (w k m = 2) <;> simp
        · obtain ⟨z1, z2⟩ := z
          simp only [Bool.and_eq_true] at z1 z2
          rw [z2.2.2] at z1
          exact absurd z1.2.2 (by decide)
      · rw [if_neg h3]
        refine fb_ct_zero.mpr fun k _ => ?_
        rw [ep k, sel_n h3]
        by_cases e : w k m = 2
        · rw [if_pos e, decide_eq_false h2]; simp
        · rw [if_neg e, decide_eq_false h1]; simp
theorem tl_none {q : Bool} {m o v a : Nat} (h : (ctd σ a && lkd (w a m)) = false) : fb_ct (pm σ w par q m o v a) (nD σ) = 0 := by
  refine fb_ct_zero.mpr fun k _ => ?_
  cases hc : ctd σ a
  · rw [pm, prb, hc]; rfl
  · rw [hc, Bool.true_and] at h
    rw [pm, on, otc_off (Or.inl h)]
    have : decide ((3 : Int32).toNatClampNeg < 3) = false := rfl
    rw [this, Bool.false_and, Bool.and_false]
theorem tl_at {t o l r s : Nat} {A : Int32} (hl : l < 2) : (if t + o = t + l then A + nI r else if t + o = t + l + 1 then A + nI s else if t + o = t + 3 then A + (nI r + nI s) else A) = A + nI (if o = l then r else if o = l + 1 then s else if o = 3 then r + s else 0) := by
  by_cases e1 : o = l
  · rw [if_pos (show t + o = t + l by omega), if_pos e1]
  · rw [if_neg (show ¬ t + o = t + l by omega), if_neg e1]
    by_cases e2 : o = l + 1
    · rw [if_pos (show t + o = t + l + 1 by omega), if_pos e2]
    · rw [if_neg (show ¬ t + o = t + l + 1 by omega), if_neg e2]
      by_cases e3 : o = 3
      · rw [if_pos (show t + o = t + 3 by omega), if_pos e3, nI_add]
      · rw [if_neg (show ¬ t + o = t + 3 by omega), if_neg e3]
        exact (Int32.add_zero _).symm
/-- the tallies after some deeds -/
def TI (σ : Hp) (w : Nat → Nat → Int32) (par : Nat → Int32) (m v i : Nat) (h g : Hp) : Prop :=
  Fr [42] [] h g ∧ (∀ o, o < 4 → g.1 42 (16 * m + 4 * v + o) = nI (cnp σ w par true m o v i) ∧ g.1 42 (256 + (16 * m + 4 * v) + o) = nI (cnp σ w par false m o v i)) ∧
  ∀ k, ¬ (16 * m + 4 * v ≤ k ∧ k < 16 * m + 4 * v + 4) → ¬ (256 + (16 * m + 4 * v) ≤ k ∧ k < 256 + (16 * m + 4 * v) + 4) → g.1 42 k = h.1 42 k
theorem lp_tally92 {F : Hp → Prop} {m v : Nat} {x4 : Int64} (sh : ShOK S) (hd : 2 ≤ d) (hS : Std h.2.2) (V : VS σ) (hn : h.1 8 1 = nI (nD σ)) (pr : PR σ par h) (s : Shw w S h) (hs : h.2.2.1 34 2 = some S)
    (hp : ∀ k, k < nD σ → ∀ b, hb (h.2.1 35 k) b = prb σ true k b ∧ hb (h.2.1 36 k) b = prb σ false k b) (hm : m < nM σ) (hv : v < 4) (h3 : par m = -1 → v = 3) (h4 : ∀ k, hb x4 k = (ctd σ k && (decide (k < 60) && lkd (w k m))))
    (nx : ∀ g, TI σ w par m v (nD σ) h g → E mX3_tallyWith d 0 0 208 [(0, .ref 34), (3, .int (nI (16 * m + 4 * v))), (6, .int 0)] [] g (Qv F) X) :
    ∀ (n i : Nat) (g : Hp), i + n = nD σ → TI σ w par m v i h g → E mX3_tallyWith d 0 0 92 [(0, .ref 34), (1, .int (nI m)), (2, .int (nI v)), (3, .int (nI (16 * m + 4 * v))), (4, .long x4), (6, .int (nI i))] [] g (Qv F) X := by
  have hD := V.d.2
  have hM := V.m.2
  intro n
  induction n with
  | zero =>
    intro i g e I
    have : i = nD σ := by omega
    subst this
    exact sgX3_tallyWith_92 sh _ _ _ _ _ hd (I.1.sd hS) ⟨fun _ => nx g I, fun z => absurd (by rw [I.1.i 8 1, hn]; exact nI_le (Nat.le_refl _) (by omega)) z⟩
  | succ n ih =>
    intro i g e I
    have hi : i < nD σ := by omega
    have hS' := I.1.sd hS
    refine sgX3_tallyWith_92 sh _ _ _ _ _ hd hS' ⟨fun z => absurd z (by rw [I.1.i 8 1, hn]; exact nI_ge hi (by omega)), fun _ => ok_has (by omega) hS' (by omega) ?_⟩
    rw [h4 i, decide_eq_true (p := i < 60) (by omega), Bool.true_and, nI_1]
    refine ⟨fun z => ih (i + 1) g (by omega) ⟨I.1, fun o ho => ?_, I.2.2⟩, fun z => ?_⟩
    · have z' := bI_0.mp z
      rw [cnp_s, cnp_s, tl_none z', tl_none z', Nat.add_zero, Nat.add_zero]
      exact I.2.1 o ho
    · have z' := bI_n0.mp z
      simp only [Bool.and_eq_true] at z'
      obtain ⟨hca, hla⟩ := z'
      have sg : ∀ g', Fr [42] [] h g' → Shw w S g' := fun g' fr => s.fw sh fr
      refine ok_matching (σ := σ) (w := w) (par := par) sh hd hS' hM (fun k hk => by rw [I.1.i 37 k]; exact pr k hk) (sg g I.1) (by rw [I.1.1]; exact hs) hm hv (by omega) h3 fun r hr => ?_
      refine ⟨by rw [I.1.1]; exact hs, vin (by omega), ok_has (by omega) hS' (by omega) ?_⟩
      rw [nI_clamp (by omega), nI_clamp (by omega), (shw_b (sg g I.1) (by omega) (by omega : i < 60)).2]
      refine ⟨vin (by omega), by rw [I.1.1]; exact hs, vin (by omega), ?_⟩
      have xb : ∀ (y : Int64) (q : Bool), (∀ b, hb y b = prb σ q i b) → ∀ k, hb (y &&& (x4 &&& r)) k = (prb σ q i k && (decide (k < 60) && (lkd (w k m) && sel v (vn w par m i k)))) := fun y q hy k => by
        rw [hb_and, hb_and, hy, h4]
        by_cases hk : k < 60
        · rw [hr k hk, decide_eq_true hk]
          cases hq : prb σ q i k
          · rfl
          · rw [(prb_lt hq).2.1]; simp
        · rw [decide_eq_false hk]; simp
      have p35 := xb (g.2.1 35 i) true fun b => by rw [I.1.l 35 i]; exact (hp i hi b).1
      have ht1 : ∀ k, k < 60 → hb (g.2.1 (S + 2) m) k = decide (w k m = 2) := fun k hk => (shw_b (sg g I.1) (by omega) hk).2
      refine ok_tallyPairs (t := 16 * m + 4 * v) (l := if w i m = 2 then 1 else 0) hd hS' (by omega) (by by_cases e : w i m = 2 <;> simp [e]) fun g2 fr2 c2 => ?_
      have hS2 := fr2.sd hS'
      have I2 : Fr [42] [] h g2 := Fr.tr I.1 fr2
      refine ⟨vin (by omega), by rw [I2.1]; exact hs, vin (by omega), ?_⟩
      have p36 := xb (g2.2.1 36 i) false fun b => by rw [I2.l 36 i]; exact (hp i hi b).2
      have ht2 : ∀ k, k < 60 → hb (g2.2.1 (S + 2) m) k = decide (w k m = 2) := fun k hk => (shw_b (sg g2 I2) (by omega) hk).2
      rw [lit_nI 256, nI_add]
      refine ok_tallyPairs (t := 256 + (16 * m + 4 * v)) (l := if w i m = 2 then 1 else 0) hd hS2 (by omega) (by by_cases e : w i m = 2 <;> simp [e]) fun g3 fr3 c3 => ih (i + 1) g3 (by omega) ⟨Fr.tr I2 fr3, fun o ho => ?_, fun k k1 k2 => ?_⟩
      · have l2 : (if w i m = 2 then 1 else 0) < 2 := by split <;> omega
        have r1 := tl_row (q := true) (v := v) (par := par) V hca hla rfl p35 ht1 o ho
        have r2 := tl_row (q := false) (v := v) (par := par) V hca hla rfl p36 ht2 o ho
        rw [cnp_s, cnp_s, r1, r2, ← nI_add, ← nI_add, ← (I.2.1 o ho).1, ← (I.2.1 o ho).2]
        have a1 := (c2 (16 * m + 4 * v + o)).trans (tl_at l2)
        have a2 := c3 (16 * m + 4 * v + o)
        have b1 := c2 (256 + (16 * m + 4 * v) + o)
        have b2 := (c3 (256 + (16 * m + 4 * v) + o)).trans (tl_at l2)
        rw [if_neg (by omega), if_neg (by omega), if_neg (by omega)] at a2
        rw [if_neg (by omega), if_neg (by omega), if_neg (by omega)] at b1
        rw [a2, a1, b2, b1]
        exact ⟨rfl, rfl⟩
      · have l2 : (if w i m = 2 then 1 else 0) < 2 := by split <;> omega
        revert l2
        generalize (if w i m = 2 then 1 else 0) = l at c2 c3 ⊢
        intro l2
        have a1 := c2 k
        have a2 := c3 k
        rw [if_neg (by omega), if_neg (by omega), if_neg (by omega)] at a1 a2
        rw [a2, a1]
        exact I.2.2 k k1 k2
end TALLIED
