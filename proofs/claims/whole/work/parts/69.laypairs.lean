/-! pairs by the reference -/
section LAYPAIRS
variable {σ h : Hp} {d : Nat} {X : String → Hp → Prop} {w : Nat → Nat → Int32} {par : Nat → Int32}
theorem ix_inj {q m o v q' m' o' v' : Nat} (hm : m < 16) (ho : o < 3) (hv : v < 4) (hm' : m' < 16) (ho' : o' < 3) (hv' : v' < 4) (h : ix q m o v = ix q' m' o' v') : q = q' ∧ m = m' ∧ o = o' ∧ v = v' := by
  unfold ix at h
  omega
theorem prb_kind {a b : Nat} (V : VS σ) (ha : ctd σ a = true) (hb' : ctd σ b = true) (hab : a < b) : (knd σ a b = 1 ↔ prb σ true a b = true) ∧ (knd σ a b = 2 ↔ prb σ false a b = true) ∧ (knd σ a b = 0 ∨ knd σ a b = 1 ∨ knd σ a b = 2) := by
  have e : ∀ q, prb σ q a b = relOf σ q a b := fun q => by rw [prb, ha, hb', decide_eq_true hab]; simp
  rw [e, e, relOf, relOf, knd, (ctd_le ha).2.1, (ctd_le hb').2.1]
  simp only [Bool.and_self, if_true, Bool.false_eq_true, if_false]
  cases h1 : one σ a b
  · cases h2 : brd σ a b
    · simp
    · simp
  · have : brd σ a b = false := by rw [brd, h1]; rfl
    rw [this]; simp
theorem prb_off {a b : Nat} {q : Bool} (h : ctd σ a = false ∨ ctd σ b = false ∨ ¬ a < b ∨ (knd σ a b = 0)) (V : VS σ) : prb σ q a b = false := by
  cases h1 : ctd σ a
  · rw [prb, h1]; rfl
  · cases h2 : ctd σ b
    · rw [prb, h2]; simp
    · by_cases h3 : a < b
      · have k := prb_kind V h1 h2 h3
        rw [h1, h2] at h
        obtain z | z | z | z := h
        · cases z
        · cases z
        · exact absurd h3 z
        · rw [z] at k
          cases q
          · exact Bool.eq_false_iff.mpr fun z2 => absurd (k.2.1.mpr z2) (by decide)
          · exact Bool.eq_false_iff.mpr fun z2 => absurd (k.1.mpr z2) (by decide)
      · rw [prb, decide_eq_false h3]; simp
theorem ok_at {F : Int32 → Hp → Prop} {q m o v : Nat} (hd : 1 ≤ d) (hS : Std h.2.2) (hq : F (nI (ix q m o v)) h) : OKi d mX12_at [.int (nI q), .int (nI m), .int (nI o), .int (nI v)] h F X := by
  refine enX12_at _ _ _ _ hd hS ?_
  have e : (192 : Int32) * nI q + 12 * nI m + 4 * nI o + nI v = nI (ix q m o v) := by rw [lit_nI 192, lit_nI 12, lit_nI 4, pk_mul, pk_mul, pk_mul, nI_add, nI_add, nI_add]; rfl
  rw [e]
  exact hq
theorem lp_pairs87 {F : Hp → Prop} {a b q : Nat} (hd : 4 ≤ d) (hS : Std h.2.2) (V : VS σ) (m : MC σ h) (ms : MS σ w h) (ps : PS σ par h) (ha : a < nD σ) (hbb : b < nD σ) (hq : q < 2) (hp : prb σ (decide (q = 0)) a b = true) (hp2 : ∀ q', q' < 2 → q' ≠ q → prb σ (decide (q' = 0)) a b = false)
    (nx : ∀ g, Fr [115] [] h g → PK σ w par a b (nM σ) g → E mX12_layPairs d 0 0 49 [(0, .ref 91), (1, .int (nI a)), (2, .int (nI (b + 1)))] [] g (Qv F) X) :
    ∀ (n i : Nat) (g : Hp), i + n = nM σ → Fr [115] [] h g → PK σ w par a b i g →
    E mX12_layPairs d 0 0 87 [(0, .ref 91), (1, .int (nI a)), (2, .int (nI b)), (3, .int (nI (q + 1))), (4, .int (nI i))] [] g (Qv F) X := by
  have hM := V.m.2
  have hD := V.d.2
  intro n
  induction n with
  | zero =>
    intro i g e fr K
    have : i = nM σ := by omega
    subst this
    have mg := m.fr fr
    refine sgX12_layPairs_87 _ _ _ _ hd (fr.sd hS) ⟨fun _ => ?_, fun z => absurd (by rw [mg.i 91 3, V.m.1]; exact nI_le (Nat.le_refl _) (by omega)) z⟩
    rw [nI_1]
    exact nx g fr K
  | succ n ih =>
    intro i g e fr K
    have hi : i < nM σ := by omega
    have mg := m.fr fr
    have hS' := fr.sd hS
    have msg : MS σ w g := ms.fr fr fun _ => rfl
    have psg : PS σ par g := fun k hk => by rw [fr.i 114 k]; exact ps k hk
    have ea : (16 : Int32) * nI a + nI i = nI (16 * a + i) := by rw [lit_nI 16, pk_mul, nI_add]
    have eb : (16 : Int32) * nI b + nI i = nI (16 * b + i) := by rw [lit_nI 16, pk_mul, nI_add]
    have eq1 : nI (q + 1) - (1 : Int32) = nI q := nI_m1 q
    refine sgX12_layPairs_87 _ _ _ _ hd hS' ⟨fun z => absurd z (by rw [mg.i 91 3, V.m.1]; exact nI_ge hi (by omega)), fun _ => ?_⟩
    rw [ea, eb, nI_1, nI_clamp (by omega), nI_clamp (by omega), msg a i ha (by omega), msg b i hbb (by omega), eq1]
    obtain ⟨o1, o2⟩ := on_n w i a b
    obtain ⟨v1, v2⟩ := vn_n w par i a b
    refine ⟨vin (by omega), vin (by omega), ok_outcomeM (by omega) hS' ?_⟩
    rw [o1]
    refine ⟨fun z => ih (i + 1) g (by omega) fr fun q' m' o' v' hq' hm' ho' hv' => ?_, fun z => ok_overM (by omega) hS' V msg psg hi ha hbb ?_⟩
    · have z3 : on w i a b = 3 := nI_inj (by omega) (by omega) z
      rw [K q' m' o' v' hq' hm' ho' hv']
      congr 1
      refine c2_cong fun x y hx hy => ?_
      rw [exq, pz, pz]
      by_cases hxy : x = a ∧ y = b ∧ m' = i
      · obtain ⟨rfl, rfl, rfl⟩ := hxy
        rw [z3, decide_eq_false (p := 3 = o') (by omega)]
        simp
      · have : decide (x < a ∨ x = a ∧ (y < b ∨ y = b ∧ m' < i)) = decide (x < a ∨ x = a ∧ (y < b ∨ y = b ∧ m' < i + 1)) := decide_eq_decide.mpr (by omega)
        rw [this]
    · have z3 : on w i a b ≠ 3 := fun q => z (by rw [q]; rfl)
      rw [v1]
      refine ok_at (by omega) hS' ?_
      have hix : ix q i (on w i a b) (vn w par i a b) < 384 := by unfold ix; omega
      rw [nI_clamp (by omega)]
      refine ⟨vin hix, vin hix, ih (i + 1) _ (by omega) (Fr.tr fr Fr.pI) fun q' m' o' v' hq' hm' ho' hv' => ?_⟩
      rw [hI_if]
      by_cases he : ix q' m' o' v' = ix q i (on w i a b) (vn w par i a b)
      · obtain ⟨h1, h2, h3, h4⟩ := ix_inj (by omega) ho' hv' (by omega) (by omega) (by omega) he
        subst h1 h2 h3 h4
        rw [if_pos rfl, K q' m' _ _ hq' hm' ho' hv', nI_1]
        congr 1
        refine (c2_step ha hbb ?_ ?_ fun x y hx hy hxy => ?_).symm
        · rw [pz, decide_eq_false (by omega), Bool.false_and]
        · rw [pz, decide_eq_true (by omega), Bool.true_and, exq, hp, decide_eq_true rfl, decide_eq_true rfl]; rfl
        · have : pz a b (m' + 1) m' x y = pz a b m' m' x y := decide_eq_decide.mpr (by omega)
          rw [this]
      · rw [if_neg he, K q' m' o' v' hq' hm' ho' hv']
        congr 1
        refine c2_cong fun x y hx hy => ?_
        by_cases hxy : x = a ∧ y = b ∧ m' = i
        · obtain ⟨rfl, rfl, rfl⟩ := hxy
          have : exq σ w par (decide (q' = 0)) m' o' v' x y = false := by
            refine Bool.eq_false_iff.mpr fun z4 => he ?_
            simp only [exq, Bool.and_eq_true, decide_eq_true_eq] at z4
            obtain ⟨z5, z6, z7⟩ := z4
            by_cases hqq : q' = q
            · rw [hqq, z6, z7]
            · rw [hp2 q' hq' hqq] at z5; cases z5
          rw [this, Bool.and_false, Bool.and_false]
        · have : pz a b i m' x y = pz a b (i + 1) m' x y := decide_eq_decide.mpr (by omega)
          rw [this]
theorem lp_pairs49 {F : Hp → Prop} {a : Nat} (hd : 4 ≤ d) (hS : Std h.2.2) (V : VS σ) (m : MC σ h) (ms : MS σ w h) (ps : PS σ par h) (ks : KS σ h) (ha : a < nD σ) (hca : ctd σ a = true)
    (nx : ∀ g, Fr [115] [] h g → PK σ w par (a + 1) 0 0 g → E mX12_layPairs d 0 0 26 [(0, .ref 91), (1, .int (nI (a + 1)))] [] g (Qv F) X) :
    ∀ (n b : Nat) (g : Hp), b + n = nD σ → a < b → Fr [115] [] h g → PK σ w par a b 0 g →
    E mX12_layPairs d 0 0 49 [(0, .ref 91), (1, .int (nI a)), (2, .int (nI b))] [] g (Qv F) X := by
  have hM := V.m.2
  have hD := V.d.2
  intro n
  induction n with
  | zero =>
    intro b g e hab fr K
    have : b = nD σ := by omega
    subst this
    have mg := m.fr fr
    refine sgX12_layPairs_49 _ _ hd (fr.sd hS) ⟨fun _ => ?_, fun z => absurd (by rw [mg.i 91 6, V.d.1]; exact nI_le (Nat.le_refl _) (by omega)) z⟩
    rw [nI_1]
    exact nx g fr (K.cg fun q m' x y hm' hx hy _ => decide_eq_decide.mpr (by omega))
  | succ n ih =>
    intro b g e hab fr K
    have hbD : b < nD σ := by omega
    have mg := m.fr fr
    have hS' := fr.sd hS
    have skip : (∀ q, prb σ q a b = false) → E mX12_layPairs d 0 0 49 [(0, .ref 91), (1, .int (nI a)), (2, .int (nI (b + 1)))] [] g (Qv F) X := fun hz => ih (b + 1) g (by omega) (by omega) fr (K.cg fun q m' x y hm' hx hy hp => by
      refine decide_eq_decide.mpr ?_
      by_cases hxy : x = a ∧ y = b
      · rw [hxy.1, hxy.2, hz q] at hp; cases hp
      · omega)
    have ei : (60 : Int32) * nI a + nI b = nI (60 * a + b) := by rw [lit_nI 60, pk_mul, nI_add]
    have ek : g.1 113 (60 * a + b) = knd σ a b := by rw [fr.i 113]; exact ks a b ha hbD (by omega)
    refine sgX12_layPairs_49 _ _ hd hS' ⟨fun z => absurd z (by rw [mg.i 91 6, V.d.1]; exact nI_ge hbD (by omega)), fun _ => ?_⟩
    rw [ei, nI_1, nI_clamp (by omega), ek]
    refine ⟨vin (by omega), fun z => skip fun q => prb_off (Or.inr (Or.inr (Or.inr z))) V, fun z => ok_countsM (by omega) hS' V mg hbD ⟨fun z2 => skip fun q => prb_off (Or.inr (Or.inl (bI_0.mp z2))) V, fun z2 => ?_⟩⟩
    have hcb := bI_n0.mp z2
    have k := prb_kind V hca hcb hab
    have nx2 : ∀ g2, Fr [115] [] g g2 → PK σ w par a b (nM σ) g2 → E mX12_layPairs d 0 0 49 [(0, .ref 91), (1, .int (nI a)), (2, .int (nI (b + 1)))] [] g2 (Qv F) X := fun g2 fr2 K2 => ih (b + 1) g2 (by omega) (by omega) (Fr.tr fr fr2) (K2.cg fun q m' x y hm' hx hy _ => decide_eq_decide.mpr (by omega))
    have msg : MS σ w g := ms.fr fr fun _ => rfl
    have psg : PS σ par g := fun k hk => by rw [fr.i 114 k]; exact ps k hk
    obtain z3 | z3 | z3 := k.2.2
    · exact absurd z3 z
    · rw [z3]
      refine lp_pairs87 (q := 0) hd hS' V mg msg psg ha hbD (by omega) (k.1.mp z3) (fun q' hq' hne => ?_) nx2 (nM σ) 0 g (by omega) Fr.rf K
      rw [decide_eq_false hne]
      refine Bool.eq_false_iff.mpr fun z4 => ?_
      have := k.2.1.mpr z4
      rw [z3] at this
      exact absurd this (by decide)
    · rw [z3]
      refine lp_pairs87 (q := 1) hd hS' V mg msg psg ha hbD (by omega) (k.2.1.mp z3) (fun q' hq' hne => ?_) nx2 (nM σ) 0 g (by omega) Fr.rf K
      rw [decide_eq_true (by omega)]
      refine Bool.eq_false_iff.mpr fun z4 => ?_
      have := k.1.mpr z4
      rw [z3] at this
      exact absurd this (by decide)
theorem lp_pairs26 {F : Hp → Prop} (hd : 4 ≤ d) (hS : Std h.2.2) (V : VS σ) (m : MC σ h) (ms : MS σ w h) (ps : PS σ par h) (ks : KS σ h)
    (hq : ∀ g, Fr [115] [] h g → PK σ w par (nD σ) 0 0 g → F g) :
    ∀ (n a : Nat) (g : Hp), a + n = nD σ → Fr [115] [] h g → PK σ w par a 0 0 g →
    E mX12_layPairs d 0 0 26 [(0, .ref 91), (1, .int (nI a))] [] g (Qv F) X := by
  have hD := V.d.2
  intro n
  induction n with
  | zero =>
    intro a g e fr K
    have : a = nD σ := by omega
    subst this
    have mg := m.fr fr
    exact sgX12_layPairs_26 _ hd (fr.sd hS) ⟨fun _ => hq g fr K, fun z => absurd (by rw [mg.i 91 6, V.d.1]; exact nI_le (Nat.le_refl _) (by omega)) z⟩
  | succ n ih =>
    intro a g e fr K
    have ha : a < nD σ := by omega
    have mg := m.fr fr
    have hS' := fr.sd hS
    refine sgX12_layPairs_26 _ hd hS' ⟨fun z => absurd z (by rw [mg.i 91 6, V.d.1]; exact nI_ge ha (by omega)), fun _ => ok_countsM hd hS' V mg ha ?_⟩
    rw [nI_1]
    refine ⟨fun z => ih (a + 1) g (by omega) fr (K.cg fun q m' x y hm' hx hy hp => ?_), fun z => ?_⟩
    · refine decide_eq_decide.mpr ?_
      by_cases hxa : x = a
      · rw [hxa, prb_off (Or.inl (bI_0.mp z)) V] at hp; cases hp
      · omega
    · refine lp_pairs49 hd hS' V mg (ms.fr fr fun _ => rfl) (fun k hk => by rw [fr.i 114 k]; exact ps k hk) (fun x y hx hy hxy => by rw [fr.i 113]; exact ks x y hx hy hxy) ha (bI_n0.mp z) (fun g2 fr2 K2 => ih (a + 1) g2 (by omega) (Fr.tr fr fr2) K2) (nD σ - (a + 1)) (a + 1) g (by omega) (by omega) Fr.rf (K.cg fun q m' x y hm' hx hy hp => ?_)
      refine decide_eq_decide.mpr ?_
      have : ¬ ¬ x < y := fun z3 => by rw [prb_off (Or.inr (Or.inr (Or.inl z3))) V] at hp; cases hp
      omega
theorem lp_pairs2 {F : Hp → Prop} (hd : 4 ≤ d) (hS : Std h.2.2)
    (nx : ∀ g, Fr [115] [] h g → (∀ k, k < 384 → g.1 115 k = 0) → E mX12_layPairs d 0 0 26 [(0, .ref 91), (1, .int 0)] [] g (Qv F) X) :
    ∀ (n i : Nat) (g : Hp), i + n = 384 → Fr [115] [] h g → (∀ k, k < i → g.1 115 k = 0) →
    E mX12_layPairs d 0 0 2 [(0, .ref 91), (1, .int (nI i))] [] g (Qv F) X := by
  intro n
  induction n with
  | zero =>
    intro i g e fr I
    have : i = 384 := by omega
    subst this
    exact sgX12_layPairs_2 _ hd (fr.sd hS) ⟨fun _ => nx g fr I, fun z => absurd (nI_le (Nat.le_refl 384) (by omega)) z⟩
  | succ n ih =>
    intro i g e fr I
    refine sgX12_layPairs_2 _ hd (fr.sd hS) ⟨fun z => absurd z (nI_ge (a := i) (b := 384) (by omega) (by omega)), fun _ => ⟨vin (by omega), ?_⟩⟩
    rw [nI_1, nI_clamp (by omega)]
    refine ih (i + 1) _ (by omega) (Fr.tr fr Fr.pI) fun k hk => ?_
    rw [hI_if]
    by_cases hki : k = i
    · rw [if_pos hki]
    · rw [if_neg hki]; exact I k (by omega)
/-- all pairs are counted -/
def PF (σ : Hp) (w : Nat → Nat → Int32) (par : Nat → Int32) (g : Hp) : Prop := ∀ q m o v, q < 2 → m < nM σ → o < 3 → v < 4 → g.1 115 (ix q m o v) = nI (CP2 (exq σ w par (decide (q = 0)) m o v) (nD σ))
theorem ok_layPairs {F : Hp → Prop} (hd : 5 ≤ d) (hS : Std h.2.2) (V : VS σ) (m : MC σ h) (ms : MS σ w h) (ps : PS σ par h) (ks : KS σ h)
    (hq : ∀ g, Fr [115] [] h g → PF σ w par g → F g) : OKv d mX12_layPairs [.ref 91] h F X := by
  have hM := V.m.2
  refine enX12_layPairs hd hS (lp_pairs2 (Nat.le_refl _) hS (fun g fr I => lp_pairs26 (Nat.le_refl _) (fr.sd hS) V (m.fr fr) (ms.fr fr fun _ => rfl) (fun k hk => by rw [fr.i 114 k]; exact ps k hk) (fun x y hx hy hxy => by rw [fr.i 113]; exact ks x y hx hy hxy) (fun g2 fr2 K => hq g2 (Fr.tr fr fr2) fun q m' o v h1 h2 h3 h4 => ?_) (nD σ) 0 g (by omega) Fr.rf fun q m' o v h1 h2 h3 h4 => ?_) 384 0 h (by omega) Fr.rf fun k hk => absurd hk (Nat.not_lt_zero _))
  · rw [K q m' o v h1 h2 h3 h4]
    congr 1
    refine c2_cong fun x y hx hy => ?_
    rw [pz, decide_eq_true (Or.inl hx), Bool.true_and]
  · rw [I _ (by unfold ix; omega), c2_zero (fun x y hx hy => ?_)]
    · rfl
    · rw [pz, decide_eq_false (by omega), Bool.false_and]
end LAYPAIRS
