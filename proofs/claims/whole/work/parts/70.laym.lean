/-! sums of pairs, logarithms, values: the reference lays -/
section LAYM
variable {σ h : Hp} {d : Nat} {X : String → Hp → Prop} {w : Nat → Nat → Int32} {par : Nat → Int32}
theorem lp_logM {F : Int32 → Hp → Prop} {v : Nat} (hv1 : 1 ≤ v) (hv : v < 2 ^ 24) (hS : Std h.2.2) (hq : F (nI (lg v)) h) : ∀ n b : Nat, b + n = Nat.log2 v → E mX12_log d 0 0 2 [(0, .int (nI v)), (1, .int (nI b))] [] h (Qi F) X := by
  have hne : v ≠ 0 := by omega
  have hlog : Nat.log2 v < 24 := (Nat.log2_lt hne).mpr hv
  intro n
  induction n with
  | zero =>
    intro b e
    have hb : b = Nat.log2 v := by omega
    have h1 : 2 ^ b ≤ v := by rw [hb]; exact Nat.log2_self_le hne
    have h2 : v < 2 ^ (b + 1) := by rw [hb]; exact Nat.lt_log2_self
    have p24 : (2 : Nat) ^ b < 2 ^ 24 := Nat.pow_lt_pow_right (by omega) (by omega)
    have hpos : 0 < 2 ^ b := Nat.pos_of_ne_zero (by simp)
    have e1 : nI v >>> (nI (b + 1) &&& 31) = nI (v / 2 ^ (b + 1)) := pk_shrN (by omega) _ (b + 1) (s_l (b + 1) (by omega))
    have e2 : (1 : Int32) <<< (nI b &&& 31) = nI (2 ^ b) := by
      have := pk_shlN (n := 1) (nI b &&& 31) b (s_l b (by omega)) (by omega)
      rw [Nat.one_mul] at this
      exact this
    refine sgX12_log_2 _ _ (Nat.zero_le _) hS ?_
    rw [nI_1, e1, e2, Nat.div_eq_of_lt h2]
    refine ⟨fun _ => ⟨fun z => absurd (nI_inj (a := 2 ^ b) (b := 0) (by omega) (by omega) z) (by omega), ?_⟩, fun z => absurd (Int32.le_refl _) z⟩
    rw [pk_sub h1, lit_nI 64, pk_mul, pk_mul, pk_div (by omega) hpos (by omega), nI_add]
    have : lg v = 64 * b + 64 * (v - 2 ^ b) / 2 ^ b := by unfold lg; rw [← hb]
    rw [this] at hq
    exact hq
  | succ n ih =>
    intro b e
    have hb : b < Nat.log2 v := by omega
    have hpos : 0 < 2 ^ (b + 1) := Nat.pos_of_ne_zero (by simp)
    have h1 : 2 ^ (b + 1) ≤ v := Nat.le_trans (Nat.pow_le_pow_right (by omega) (by omega)) (Nat.log2_self_le hne)
    have e1 : nI v >>> (nI (b + 1) &&& 31) = nI (v / 2 ^ (b + 1)) := pk_shrN (by omega) _ (b + 1) (s_l (b + 1) (by omega))
    have hq1 : 1 ≤ v / 2 ^ (b + 1) := (Nat.one_le_div_iff hpos).mpr h1
    have hlt : v / 2 ^ (b + 1) ≤ v := Nat.div_le_self _ _
    refine sgX12_log_2 _ _ (Nat.zero_le _) hS ?_
    rw [nI_1, e1]
    exact ⟨fun c => absurd c (nI_ge (a := 0) (by omega) (by omega)), fun _ => ih (b + 1) (by omega)⟩
theorem ok_logM {F : Int32 → Hp → Prop} {v : Nat} (hd : 1 ≤ d) (hS : Std h.2.2) (hv1 : 1 ≤ v) (hv : v < 2 ^ 24) (hq : F (nI (lg v)) h) : OKi d mX12_log [.int (nI v)] h F X :=
  enX12_log (nI v) hd hS (lp_logM hv1 hv hS hq (Nat.log2 v) 0 (by omega))
/-- pairs counted so far: outcomes with parents' outcomes below k -/
def cpt (σ : Hp) (w : Nat → Nat → Int32) (par : Nat → Int32) (q : Bool) (m o v k : Nat) : Nat := CP2 (fun a b => prb σ q a b && (decide (4 * on w m a b + vn w par m a b < k) && (sel o (on w m a b) && sel v (vn w par m a b)))) (nD σ)
theorem cpt_skip {q : Bool} {m o v i j : Nat} (hj : j < 4) (h : (sel o i && sel v j) = false) : cpt σ w par q m o v (4 * i + (j + 1)) = cpt σ w par q m o v (4 * i + j) := by
  refine c2_cong fun a b _ _ => ?_
  have h3 := (on_n w m a b).2
  have h4 := (vn_n w par m a b).2
  by_cases e : on w m a b = i ∧ vn w par m a b = j
  · rw [e.1, e.2, h]; simp
  · have : decide (4 * on w m a b + vn w par m a b < 4 * i + (j + 1)) = decide (4 * on w m a b + vn w par m a b < 4 * i + j) := decide_eq_decide.mpr (by omega)
    rw [this]
theorem cpt_take {q : Bool} {m o v i j : Nat} (hj : j < 4) (h : (sel o i && sel v j) = true) : cpt σ w par q m o v (4 * i + (j + 1)) = cpt σ w par q m o v (4 * i + j) + CP2 (exq σ w par q m i j) (nD σ) := by
  rw [cpt, cpt, ← c2_or (fun a b _ _ z => ?_)]
  · refine c2_cong fun a b _ _ => ?_
    have h3 := (on_n w m a b).2
    have h4 := (vn_n w par m a b).2
    rw [exq]
    by_cases e : on w m a b = i ∧ vn w par m a b = j
    · rw [e.1, e.2, h, decide_eq_true (p := i = i) rfl, decide_eq_true (p := j = j) rfl, decide_eq_true (p := 4 * i + j < 4 * i + (j + 1)) (by omega)]
      cases prb σ q a b <;> simp
    · have t1 : decide (4 * on w m a b + vn w par m a b < 4 * i + (j + 1)) = decide (4 * on w m a b + vn w par m a b < 4 * i + j) := decide_eq_decide.mpr (by omega)
      have t2 : (decide (on w m a b = i) && decide (vn w par m a b = j)) = false := by rw [← Bool.decide_and]; exact decide_eq_false e
      rw [t1, t2, Bool.and_false, Bool.or_false]
  · simp only [exq, Bool.and_eq_true, decide_eq_true_eq] at z
    obtain ⟨⟨_, z1, _⟩, _, z2, z3⟩ := z
    omega
theorem cpt_end {q : Bool} {m o v : Nat} : cpt σ w par q m o v 12 = cnt σ w par q m o v := by
  refine c2_cong fun a b _ _ => ?_
  have h4 := (vn_n w par m a b).2
  have : decide (4 * on w m a b + vn w par m a b < 12) = decide (on w m a b < 3) := decide_eq_decide.mpr (by omega)
  rw [this]
theorem nI_sel {x y : Nat} (hx : x < 4) (hy : y < 4) : sel x y = true ↔ nI x = 3 ∨ nI x = nI y := by
  rw [sel, Bool.or_eq_true, decide_eq_true_eq, decide_eq_true_eq]
  have e1 : nI x = 3 ↔ x = 3 := nI_eq (b := 3) (by omega) (by omega)
  rw [e1, nI_eq (by omega) (by omega)]
theorem lp_pairsOf15 {F : Int32 → Hp → Prop} {q m o v i : Nat} (hd : 1 ≤ d) (hS : Std h.2.2) (hM : nM σ ≤ 16) (pf : PF σ w par h) (hq2 : q < 2) (hm : m < nM σ) (ho : o < 4) (hv : v < 4) (hi : i < 3)
    (nx : E mX12_pairsOf d 0 0 6 [(0, .ref 91), (1, .int (nI q)), (2, .int (nI m)), (3, .int (nI o)), (4, .int (nI v)), (5, .int (nI (cpt σ w par (decide (q = 0)) m o v (4 * (i + 1))))), (6, .int (nI (i + 1)))] [] h (Qi F) X) :
    ∀ n j : Nat, j + n = 4 → E mX12_pairsOf d 0 0 15 [(0, .ref 91), (1, .int (nI q)), (2, .int (nI m)), (3, .int (nI o)), (4, .int (nI v)), (5, .int (nI (cpt σ w par (decide (q = 0)) m o v (4 * i + j)))), (6, .int (nI i)), (7, .int (nI j))] [] h (Qi F) X := by
  intro n
  induction n with
  | zero =>
    intro j e
    have : j = 4 := by omega
    subst this
    refine sgX12_pairsOf_15 _ _ _ _ _ _ _ hd hS ⟨fun _ => ?_, fun z => absurd (nI_le (Nat.le_refl 4) (by omega)) z⟩
    rw [nI_1]
    exact nx
  | succ n ih =>
    intro j e
    have hj : j < 4 := by omega
    have skip : (sel o i && sel v j) = false → E mX12_pairsOf d 0 0 64 [(0, .ref 91), (1, .int (nI q)), (2, .int (nI m)), (3, .int (nI o)), (4, .int (nI v)), (5, .int (nI (cpt σ w par (decide (q = 0)) m o v (4 * i + j)))), (6, .int (nI i)), (7, .int (nI j))] [] h (Qi F) X := fun hz => by
      refine sgX12_pairsOf_64 _ _ _ _ _ _ _ hd hS ?_
      rw [nI_1, ← cpt_skip hj hz]
      exact ih (j + 1) (by omega)
    have take : sel o i = true → sel v j = true → E mX12_pairsOf d 0 0 45 [(0, .ref 91), (1, .int (nI q)), (2, .int (nI m)), (3, .int (nI o)), (4, .int (nI v)), (5, .int (nI (cpt σ w par (decide (q = 0)) m o v (4 * i + j)))), (6, .int (nI i)), (7, .int (nI j))] [] h (Qi F) X := fun h1 h2 => by
      have hix : ix q m i j < 384 := by unfold ix; omega
      refine sgX12_pairsOf_45 _ _ _ _ _ _ _ hd hS (ok_at (by omega) hS ?_)
      rw [nI_clamp (by omega), pf q m i j hq2 hm hi hj, nI_add, ← cpt_take hj (by rw [h1, h2]; rfl)]
      refine ⟨vin hix, sgX12_pairsOf_64 _ _ _ _ _ _ _ hd hS ?_⟩
      rw [nI_1]
      exact ih (j + 1) (by omega)
    have go : sel o i = true → E mX12_pairsOf d 0 0 32 [(0, .ref 91), (1, .int (nI q)), (2, .int (nI m)), (3, .int (nI o)), (4, .int (nI v)), (5, .int (nI (cpt σ w par (decide (q = 0)) m o v (4 * i + j)))), (6, .int (nI i)), (7, .int (nI j))] [] h (Qi F) X := fun h1 =>
      sgX12_pairsOf_32 _ _ _ _ _ _ _ hd hS ⟨fun z => take h1 ((nI_sel hv hj).mpr (Or.inl z)), fun z => ⟨fun z2 => take h1 ((nI_sel hv hj).mpr (Or.inr z2)), fun z2 => skip (by
        have : sel v j = false := Bool.eq_false_iff.mpr fun q => ((nI_sel hv hj).mp q).elim z z2
        rw [this, Bool.and_false])⟩⟩
    exact sgX12_pairsOf_15 _ _ _ _ _ _ _ hd hS ⟨fun z => absurd z (nI_ge (a := j) (b := 4) (by omega) (by omega)), fun _ => ⟨fun z => go ((nI_sel ho (by omega)).mpr (Or.inl z)), fun z => ⟨fun z2 => go ((nI_sel ho (by omega)).mpr (Or.inr z2)), fun z2 => skip (by
      have : sel o i = false := Bool.eq_false_iff.mpr fun q => ((nI_sel ho (by omega)).mp q).elim z z2
      rw [this, Bool.false_and])⟩⟩⟩
theorem lp_pairsOf6 {F : Int32 → Hp → Prop} {q m o v : Nat} (hd : 1 ≤ d) (hS : Std h.2.2) (hM : nM σ ≤ 16) (pf : PF σ w par h) (hq2 : q < 2) (hm : m < nM σ) (ho : o < 4) (hv : v < 4) (hq : F (nI (cnt σ w par (decide (q = 0)) m o v)) h) :
    ∀ n i : Nat, i + n = 3 → E mX12_pairsOf d 0 0 6 [(0, .ref 91), (1, .int (nI q)), (2, .int (nI m)), (3, .int (nI o)), (4, .int (nI v)), (5, .int (nI (cpt σ w par (decide (q = 0)) m o v (4 * i)))), (6, .int (nI i))] [] h (Qi F) X := by
  intro n
  induction n with
  | zero =>
    intro i e
    have : i = 3 := by omega
    subst this
    refine sgX12_pairsOf_6 _ _ _ _ _ _ hd hS ⟨fun _ => ?_, fun z => absurd (nI_le (Nat.le_refl 3) (by omega)) z⟩
    rw [← cpt_end] at hq
    exact hq
  | succ n ih =>
    intro i e
    exact sgX12_pairsOf_6 _ _ _ _ _ _ hd hS ⟨fun z => absurd z (nI_ge (a := i) (b := 3) (by omega) (by omega)), fun _ => lp_pairsOf15 hd hS hM pf hq2 hm ho hv (by omega) (ih (i + 1) (by omega)) 4 0 (by omega)⟩
theorem ok_pairsOf {F : Int32 → Hp → Prop} {q m o v : Nat} (hd : 2 ≤ d) (hS : Std h.2.2) (hM : nM σ ≤ 16) (pf : PF σ w par h) (hq2 : q < 2) (hm : m < nM σ) (ho : o < 4) (hv : v < 4) (hq : F (nI (cnt σ w par (decide (q = 0)) m o v)) h) : OKi d mX12_pairsOf [.ref 91, .int (nI q), .int (nI m), .int (nI o), .int (nI v)] h F X := by
  have := lp_pairsOf6 (Nat.le_refl 1) hS hM pf hq2 hm ho hv hq (X := X) 3 0 (by omega)
  have e0 : cpt σ w par (decide (q = 0)) m o v (4 * 0) = 0 := c2_zero fun a b _ _ => by
    rw [decide_eq_false (p := 4 * on w m a b + vn w par m a b < 4 * 0) (by omega), Bool.false_and, Bool.and_false]
  rw [e0] at this
  exact enX12_pairsOf _ _ _ _ hd hS this
/-- VALUE of an outcome -/
def vlu (σ : Hp) (w : Nat → Nat → Int32) (par : Nat → Int32) (m o v : Nat) : Int32 :=
  nI (lg (cnt σ w par true m o v + 1)) - nI (lg (cnt σ w par true m 3 v + 3)) - nI (lg (cnt σ w par false m o v + 1)) + nI (lg (cnt σ w par false m 3 v + 3))
theorem c2_le (P : Nat → Nat → Bool) (n : Nat) : CP2 P n ≤ n * n := fb_sm_bound fun k _ => fb_ct_le _ _
theorem cnt_lt (V : VS σ) (q : Bool) (m o v : Nat) : cnt σ w par q m o v ≤ 3600 := by
  have hD := V.d.2
  exact Nat.le_trans (c2_le _ _) (Nat.mul_le_mul hD hD)
/-- the reference has laid -/
def VL (σ : Hp) (w : Nat → Nat → Int32) (par : Nat → Int32) (M : Nat) (g : Hp) : Prop := ∀ m o v, m < M → o < 3 → v < 4 → g.1 116 (12 * m + 4 * o + v) = vlu σ w par m o v
theorem lp_lay33 {F : Hp → Prop} {i j : Nat} (hd : 6 ≤ d) (hS : Std h.2.2) (V : VS σ) (pf : PF σ w par h) (hi : i < nM σ) (hj : j < 3)
    (nx : ∀ g, Fr [116] [] h g → (∀ m o v, o < 3 → v < 4 → (m < i ∨ (m = i ∧ o < j + 1)) → g.1 116 (12 * m + 4 * o + v) = vlu σ w par m o v) → E mX12_lay d 0 0 25 [(0, .ref 91), (2, .int (nI i)), (3, .int (nI (j + 1)))] [] g (Qv F) X) :
    ∀ (n k : Nat) (g : Hp), k + n = 4 → Fr [116] [] h g → (∀ m o v, o < 3 → v < 4 → (m < i ∨ (m = i ∧ (o < j ∨ (o = j ∧ v < k)))) → g.1 116 (12 * m + 4 * o + v) = vlu σ w par m o v) →
    E mX12_lay d 0 0 33 [(0, .ref 91), (2, .int (nI i)), (3, .int (nI j)), (4, .int (nI k))] [] g (Qv F) X := by
  have hM := V.m.2
  intro n
  induction n with
  | zero =>
    intro k g e fr I
    have : k = 4 := by omega
    subst this
    refine sgX12_lay_33 _ _ _ hd (fr.sd hS) ⟨fun _ => ?_, fun z => absurd (nI_le (Nat.le_refl 4) (by omega)) z⟩
    rw [nI_1]
    exact nx g fr fun m o v ho hv hlt => I m o v ho hv (by omega)
  | succ n ih =>
    intro k g e fr I
    have hk : k < 4 := by omega
    have hS' := fr.sd hS
    have pfg : PF σ w par g := fun q m o v h1 h2 h3 h4 => by rw [fr.i 115]; exact pf q m o v h1 h2 h3 h4
    have c1 := cnt_lt (w := w) (par := par) V true i j k
    have c2 := cnt_lt (w := w) (par := par) V true i 3 k
    have c3 := cnt_lt (w := w) (par := par) V false i j k
    have c4 := cnt_lt (w := w) (par := par) V false i 3 k
    refine sgX12_lay_33 _ _ _ hd hS' ⟨fun z => absurd z (nI_ge (a := k) (b := 4) (by omega) (by omega)), fun _ => ?_⟩
    refine ok_pairsOf (q := 0) (o := j) (by omega) hS' hM pfg (by omega) hi (by omega) hk ?_
    rw [lit_nI 1, nI_add]
    refine ok_logM (by omega) hS' (by omega) (by simp only [decide_true]; omega) (ok_pairsOf (q := 0) (o := 3) (by omega) hS' hM pfg (by omega) hi (by omega) hk ?_)
    rw [lit_nI 3, nI_add]
    refine ok_logM (by omega) hS' (by omega) (by simp only [decide_true]; omega) (ok_pairsOf (q := 1) (o := j) (by omega) hS' hM pfg (by omega) hi (by omega) hk ?_)
    rw [nI_add]
    refine ok_logM (by omega) hS' (by omega) (by show cnt σ w par false i j k + 1 < _; omega) (ok_pairsOf (q := 1) (o := 3) (by omega) hS' hM pfg (by omega) hi (by omega) hk ?_)
    rw [nI_add]
    refine ok_logM (by omega) hS' (by omega) (by show cnt σ w par false i 3 k + 3 < _; omega) ?_
    have ei : (12 : Int32) * nI i + (4 : Int32) * nI j + nI k = nI (12 * i + 4 * j + k) := by rw [lit_nI 12, lit_nI 4, pk_mul, pk_mul, nI_add, nI_add]
    rw [ei, nI_add, nI_clamp (by omega)]
    refine ⟨vin (by omega), ih (k + 1) _ (by omega) (Fr.tr fr Fr.pI) fun m o v ho hv hlt => ?_⟩
    rw [hI_if]
    by_cases he : 12 * m + 4 * o + v = 12 * i + 4 * j + k
    · have h1 : m = i := by omega
      have h2 : o = j := by omega
      have h3 : v = k := by omega
      subst h1 h2 h3
      rw [if_pos he]
      rfl
    · rw [if_neg he]
      exact I m o v ho hv (by omega)
theorem lp_lay25 {F : Hp → Prop} {i : Nat} (hd : 6 ≤ d) (hS : Std h.2.2) (V : VS σ) (pf : PF σ w par h) (hi : i < nM σ)
    (nx : ∀ g, Fr [116] [] h g → VL σ w par (i + 1) g → E mX12_lay d 0 0 15 [(0, .ref 91), (2, .int (nI (i + 1)))] [] g (Qv F) X) :
    ∀ (n j : Nat) (g : Hp), j + n = 3 → Fr [116] [] h g → (∀ m o v, o < 3 → v < 4 → (m < i ∨ (m = i ∧ o < j)) → g.1 116 (12 * m + 4 * o + v) = vlu σ w par m o v) →
    E mX12_lay d 0 0 25 [(0, .ref 91), (2, .int (nI i)), (3, .int (nI j))] [] g (Qv F) X := by
  intro n
  induction n with
  | zero =>
    intro j g e fr I
    have : j = 3 := by omega
    subst this
    refine sgX12_lay_25 _ _ hd (fr.sd hS) ⟨fun _ => ?_, fun z => absurd (nI_le (Nat.le_refl 3) (by omega)) z⟩
    rw [nI_1]
    exact nx g fr fun m o v hm ho hv => I m o v ho hv (by omega)
  | succ n ih =>
    intro j g e fr I
    refine sgX12_lay_25 _ _ hd (fr.sd hS) ⟨fun z => absurd z (nI_ge (a := j) (b := 3) (by omega) (by omega)), fun _ => ?_⟩
    refine lp_lay33 hd (fr.sd hS) V (fun q m o v h1 h2 h3 h4 => by rw [fr.i 115]; exact pf q m o v h1 h2 h3 h4) hi (by omega) (fun g2 fr2 I2 => ih (j + 1) g2 (by omega) (Fr.tr fr fr2) I2) 4 0 g (by omega) Fr.rf fun m o v ho hv hlt => I m o v ho hv (by omega)
theorem lp_lay15 {F : Hp → Prop} (hd : 6 ≤ d) (hS : Std h.2.2) (V : VS σ) (m : h.1 91 3 = nI (nM σ)) (pf : PF σ w par h)
    (hq : ∀ g, Fr [116] [] h g → VL σ w par (nM σ) g → F g) :
    ∀ (n i : Nat) (g : Hp), i + n = nM σ → Fr [116] [] h g → VL σ w par i g →
    E mX12_lay d 0 0 15 [(0, .ref 91), (2, .int (nI i))] [] g (Qv F) X := by
  have hM := V.m.2
  intro n
  induction n with
  | zero =>
    intro i g e fr I
    have : i = nM σ := by omega
    subst this
    exact sgX12_lay_15 _ hd (fr.sd hS) ⟨fun _ => hq g fr I, fun z => absurd (by rw [fr.i 91 3, m]; exact nI_le (Nat.le_refl _) (by omega)) z⟩
  | succ n ih =>
    intro i g e fr I
    have hi : i < nM σ := by omega
    refine sgX12_lay_15 _ hd (fr.sd hS) ⟨fun z => absurd z (by rw [fr.i 91 3, m]; exact nI_ge hi (by omega)), fun _ => ?_⟩
    exact lp_lay25 hd (fr.sd hS) V (fun q m o v h1 h2 h3 h4 => by rw [fr.i 115]; exact pf q m o v h1 h2 h3 h4) hi (fun g2 fr2 I2 => ih (i + 1) g2 (by omega) (Fr.tr fr fr2) I2) 3 0 g (by omega) Fr.rf fun m o v ho hv hlt => I m o v (by omega) ho hv
/-- parents as marks -/
def prT (σ : Hp) (w : Nat → Nat → Int32) (m : Nat) : Int32 := paT (frs σ w) m
theorem frs_J (V : VS σ) : JT (nM σ) (frs σ w) := finT_J V.m.2 16 tr0 (JT.zero _)
theorem prT_n (V : VS σ) {m : Nat} (hm : m < nM σ) : prT σ w m = -1 ∨ ∃ p, p < nM σ ∧ prT σ w m = nI p := by
  by_cases e : (frs σ w).1 m = m
  · exact Or.inl (paT_no (frs_J V) hm e)
  · obtain ⟨b, h1, _, _, _, h5⟩ := paT_ex V.m.2 (frs_J V) hm e
    exact Or.inr ⟨b, h1, h5⟩
/-- what a lay leaves in the reference -/
def RLaid (σ : Hp) (w : Nat → Nat → Int32) (g : Hp) : Prop := MS σ w g ∧ KS σ g ∧ PS σ (prT σ w) g ∧ PF σ w (prT σ w) g ∧ VL σ w (prT σ w) (nM σ) g
theorem ok_layM {F : Hp → Prop} {late : Bool} (hd : 7 ≤ d) (hS : Std h.2.2) (V : VS σ) (m : MC σ h) (ak : Asked σ h late w)
    (hq : ∀ g, Fr [112, 113, 114, 115, 116, 117, 118, 119] [] h g → RLaid σ w g → F g) : OKv d mX12_lay [.ref 91, .int (bI late)] h F X := by
  refine enX12_lay _ hd hS (ok_layStates (by omega) hS V m ak fun g1 fr1 ms1 ks1 => ?_)
  have m1 := m.fr fr1
  have s1 := fr1.sd hS
  refine ok_layTree (by omega) s1 V m1 ms1 fun g2 fr2 p2 => ?_
  have m2 := m1.fr fr2
  have s2 := fr2.sd s1
  have ps2 : PS σ (prT σ w) g2 := fun k hk => ⟨p2 k hk, prT_n V hk⟩
  have ms2 : MS σ w g2 := ms1.fr fr2 fun _ => rfl
  have ks2 : KS σ g2 := fun x y hx hy hxy => by rw [fr2.i 113]; exact ks1 x y hx hy hxy
  refine ok_layPairs (by omega) s2 V m2 ms2 ps2 ks2 fun g3 fr3 pf3 => ?_
  refine lp_lay15 (Nat.le_refl _) (fr3.sd s2) V (by rw [fr3.i 91 3, m2.i 91 3, V.m.1]) pf3 (fun g4 fr4 v4 => hq g4 (Fr.tr (Fr.mono fr1) (Fr.tr (Fr.mono fr2) (Fr.tr (Fr.mono fr3) (Fr.mono fr4)))) ?_) (nM σ) 0 g3 (by omega) Fr.rf fun k o v hk => absurd hk (Nat.not_lt_zero _)
  have fr34 : Fr [115, 116] [] g2 g4 := Fr.tr (Fr.mono fr3) (Fr.mono fr4)
  exact ⟨ms2.fr fr34 fun _ => rfl, fun x y hx hy hxy => by rw [fr34.i 113]; exact ks2 x y hx hy hxy, fun k hk => by rw [fr34.i 114]; exact ps2 k hk, fun q k o v h1 h2 h3 h4 => by rw [fr4.i 115]; exact pf3 q k o v h1 h2 h3 h4, v4⟩
end LAYM
