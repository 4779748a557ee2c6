/-! states and kinds of pairs, by the reference -/
section KINDS
variable {σ h : Hp} {d : Nat} {X : String → Hp → Prop}
theorem isof_sym1 {x y z t : Int32} : ((decide (z = x) || decide (t = x)) || (decide (z = y) || decide (t = y))) = ((decide (x = z) || decide (y = z)) || (decide (x = t) || decide (y = t))) := by
  have dc : ∀ u v : Int32, decide (u = v) = decide (v = u) := fun u v => decide_eq_decide.mpr eq_comm
  rw [dc z x, dc t x, dc z y, dc t y]
  cases decide (x = z) <;> cases decide (x = t) <;> cases decide (y = z) <;> cases decide (y = t) <;> rfl
theorem one_sym (a b : Nat) : one σ a b = one σ b a := by
  rw [one, one, isof, isof, isof, isof, isof_sym1, Bool.and_comm (sol σ a)]
theorem bar_sym (V : VS σ) {a b : Nat} (ha : a < 60) (hb' : b < 60) : bar σ a b = bar σ b a := by
  cases e : bar σ a b
  · cases e2 : bar σ b a
    · rfl
    · rw [(V.br hb' ha e2).1] at e; cases e
  · exact (V.br ha hb' e).1.symm
theorem apt_sym (V : VS σ) {a b : Nat} (ha : a < nD σ) (hb' : b < nD σ) : apt σ a b = apt σ b a := by
  rw [apt, apt, maxI_comm, dst_sym V (V.de ha).1.2 (V.de hb').1.2]
theorem brd_sym (V : VS σ) {a b : Nat} (ha : a < nD σ) (hb' : b < nD σ) : brd σ a b = brd σ b a := by
  have hD := V.d.2
  rw [brd, brd, one_sym, apt_sym V ha hb', bar_sym V (by omega) (by omega), Bool.and_comm (sol σ a)]
def knd (σ : Hp) (a b : Nat) : Int32 := if al σ a && al σ b then (if one σ a b then 1 else if brd σ a b then 2 else 0) else 0
theorem knd_sym (V : VS σ) {a b : Nat} (ha : a < nD σ) (hb' : b < nD σ) : knd σ a b = knd σ b a := by
  rw [knd, knd, one_sym, brd_sym V ha hb', Bool.and_comm (al σ a)]
def KS (σ h : Hp) : Prop := ∀ a b, a < nD σ → b < nD σ → a ≠ b → h.1 113 (60 * a + b) = knd σ a b
def KI (σ h g : Hp) (i j : Nat) : Prop := Fr [113] [] h g ∧ (∀ a b, a < i → b < i → a ≠ b → g.1 113 (60 * a + b) = knd σ a b) ∧ (∀ b, b < j → b < i → g.1 113 (60 * i + b) = knd σ i b ∧ g.1 113 (60 * b + i) = knd σ i b)
theorem lp_kinds81 {F : Hp → Prop} (hd : 3 ≤ d) (hS : Std h.2.2) (V : VS σ) (m : MC σ h) {i : Nat} (hi : i < nD σ)
    (nx : ∀ g, KI σ h g i i → E mX12_layStates d 0 0 71 [(0, .ref 91), (2, .int (nI (i + 1)))] [] g (Qv F) X) : ∀ (n j : Nat) (g : Hp), j + n = i → KI σ h g i j →
    E mX12_layStates d 0 0 81 [(0, .ref 91), (2, .int (nI i)), (3, .int (nI j))] [] g (Qv F) X := by
  have hD := V.d.2
  intro n
  induction n with
  | zero =>
    intro j g e I
    have : j = i := by omega
    subst this
    refine sgX12_layStates_81 _ _ hd (I.1.sd hS) ⟨fun _ => ?_, fun z => absurd (Int32.le_refl _) z⟩
    rw [nI_1]
    exact nx g I
  | succ n ih =>
    intro j g e I
    have hj : j < i := by omega
    have mg := m.fr I.1
    have hS' := I.1.sd hS
    have go : ∀ v, v = knd σ i j → E mX12_layStates d 0 0 135 [(0, .ref 91), (2, .int (nI i)), (3, .int (nI j))] [.int v] g (Qv F) X := fun v hv => by
      have ea : (60 : Int32) * nI i + nI j = nI (60 * i + j) := by rw [lit_nI 60, pk_mul, nI_add]
      have eb : (60 : Int32) * nI j + nI i = nI (60 * j + i) := by rw [lit_nI 60, pk_mul, nI_add]
      refine sgX12_layStates_135 _ _ _ hd hS' ?_
      rw [ea, eb, nI_1, nI_clamp (by omega), nI_clamp (by omega), hv]
      refine ⟨vin (by omega), vin (by omega), ih (j + 1) _ (by omega) ⟨Fr.tr I.1 (Fr.tr Fr.pI Fr.pI), fun a b ha hbb hab => ?_, fun b h1 h2 => ?_⟩⟩
      · rw [hI_if, if_neg (by omega), hI_if, if_neg (by omega)]
        exact I.2.1 a b ha hbb hab
      · rw [hI_if, hI_if, hI_if, hI_if]
        by_cases hbj : b = j
        · subst hbj
          rw [if_neg (by omega), if_pos rfl, if_pos rfl]; exact ⟨rfl, rfl⟩
        · rw [if_neg (by omega), if_neg (by omega), if_neg (by omega), if_neg (by omega)]
          exact I.2.2 b (by omega) h2
    refine sgX12_layStates_81 _ _ hd hS' ⟨fun z => absurd z (nI_ge hj (by omega)), fun _ => ?_⟩
    rw [nI_clamp (by omega), nI_clamp (by omega), mg.i 105 i, mg.i 105 j]
    refine ⟨vin (by omega), fun z => ⟨vin (by omega), fun z2 => ok_areOneM (by omega) hS' V mg (by omega) (by omega) ⟨fun z3 => ok_areBarredM (by omega) hS' V mg hi (by omega) ⟨fun z4 => go 0 ?_, fun z4 => go 2 ?_⟩, fun z3 => go 1 ?_⟩, fun z2 => sgX12_layStates_104 _ _ hd hS' (go 0 ?_)⟩, fun z => sgX12_layStates_104 _ _ hd hS' (go 0 ?_)⟩
    · rw [knd, bI_0.mp z3, bI_0.mp z4]; simp
    · have a1 : al σ i = true := by rw [al, decide_eq_true hi, decide_eq_true z]; rfl
      have a2 : al σ j = true := by rw [al, decide_eq_true (by omega), decide_eq_true z2]; rfl
      rw [knd, a1, a2, bI_0.mp z3, bI_n0.mp z4]; simp
    · have a1 : al σ i = true := by rw [al, decide_eq_true hi, decide_eq_true z]; rfl
      have a2 : al σ j = true := by rw [al, decide_eq_true (by omega), decide_eq_true z2]; rfl
      rw [knd, a1, a2, bI_n0.mp z3]; simp
    · have a2 : al σ j = false := by rw [al, decide_eq_false z2, Bool.and_false]
      rw [knd, a2, Bool.and_false]; rfl
    · have a1 : al σ i = false := by rw [al, decide_eq_false z, Bool.and_false]
      rw [knd, a1, Bool.false_and]; rfl
theorem lp_kinds71 {F : Hp → Prop} (hd : 3 ≤ d) (hS : Std h.2.2) (V : VS σ) (m : MC σ h) (hq : ∀ g, Fr [113] [] h g → KS σ g → F g) : ∀ (n i : Nat) (g : Hp), i + n = nD σ → KI σ h g i 0 →
    E mX12_layStates d 0 0 71 [(0, .ref 91), (2, .int (nI i))] [] g (Qv F) X := by
  have hD := V.d.2
  intro n
  induction n with
  | zero =>
    intro i g e I
    have : i = nD σ := by omega
    subst this
    have mg := m.fr I.1
    exact sgX12_layStates_71 _ hd (I.1.sd hS) ⟨fun _ => hq g I.1 I.2.1, fun z => absurd (by rw [mg.i 91 6, V.d.1]; exact nI_le (Nat.le_refl _) (by omega)) z⟩
  | succ n ih =>
    intro i g e I
    have hi : i < nD σ := by omega
    have mg := m.fr I.1
    refine sgX12_layStates_71 _ hd (I.1.sd hS) ⟨fun z => absurd z (by rw [mg.i 91 6, V.d.1]; exact nI_ge hi (by omega)), fun _ => ?_⟩
    refine lp_kinds81 hd hS V m hi (fun g' I' => ih (i + 1) g' (by omega) ⟨I'.1, fun a b ha hbb hab => ?_, fun b h1 _ => absurd h1 (Nat.not_lt_zero _)⟩) i 0 g (by omega) ⟨I.1, I.2.1, fun b h1 _ => absurd h1 (Nat.not_lt_zero _)⟩
    by_cases h1 : a = i
    · subst h1
      exact (I'.2.2 b (by omega) (by omega)).1
    · by_cases h2 : b = i
      · subst h2
        rw [knd_sym V (by omega) (by omega)]
        exact (I'.2.2 a (by omega) (by omega)).2
      · exact I'.2.1 a b (by omega) (by omega) hab
/-- the states that a call looks at -/
def wS (σ : Hp) (late : Bool) (k m : Nat) : Int32 := if late then lst σ k m else pln σ k m
def Asked (σ h : Hp) (late : Bool) (w : Nat → Nat → Int32) : Prop :=
  (h.1 91 36 = -1 ∧ w = wS σ late) ∨ ∃ k j x, k < 60 ∧ j < 16 ∧ h.1 91 36 = nI k ∧ h.1 91 37 = nI j ∧ h.1 91 38 = x ∧ w = upw (wS σ late) k j x
theorem lp_states2 {F : Hp → Prop} {late : Bool} (hd : 3 ≤ d) (hS : Std h.2.2) (m : MC σ h)
    (nx : ∀ g, Fr [112] [] h g → MS σ (wS σ late) g → (((g.1 91 36) = (-1) → E mX12_layStates d 0 0 69 [(0, .ref 91)] [] g (Qv F) X) ∧ (¬ (g.1 91 36) = (-1) → (vp_in (((16) * (g.1 91 36)) + (g.1 91 37)) 960 ∧ E mX12_layStates d 0 0 69 [(0, .ref 91)] [] (hI g 112 ((((16) * (g.1 91 36)) + (g.1 91 37)).toNatClampNeg) (g.1 91 38)) (Qv F) X)))) (hD : nD σ ≤ 60) :
    ∀ (n i : Nat) (g : Hp), i + n = 960 → Fr [112] [] h g → (∀ k, k < i → g.1 112 k = if late then σ.1 107 k else σ.1 108 k) → E mX12_layStates d 0 0 2 [(0, .ref 91), (1, .int (bI late)), (2, .int (nI i))] [] g (Qv F) X := by
  intro n
  induction n with
  | zero =>
    intro i g e fr I
    have : i = 960 := by omega
    subst this
    refine sgX12_layStates_2 _ _ hd (fr.sd hS) ⟨fun _ => nx g fr fun k j hk hj => ?_, fun z => absurd (nI_le (Nat.le_refl 960) (by omega)) z⟩
    rw [I _ (by omega), wS, lst, pln]
  | succ n ih =>
    intro i g e fr I
    have mg := m.fr fr
    refine sgX12_layStates_2 _ _ hd (fr.sd hS) ⟨fun z => absurd z (nI_ge (a := i) (b := 960) (by omega) (by omega)), fun _ => ?_⟩
    rw [nI_clamp (by omega), mg.i 107 i, mg.i 108 i]
    have go : ∀ v, v = (if late then σ.1 107 i else σ.1 108 i) → E mX12_layStates d 0 0 33 [(0, .ref 91), (1, .int (bI late)), (2, .int (nI i))] [.int v, .int (nI i), .ref 112] g (Qv F) X := fun v hv => by
      refine sgX12_layStates_33 _ _ _ _ hd (fr.sd hS) ⟨vin (by omega), ?_⟩
      rw [nI_1, nI_clamp (by omega)]
      refine ih (i + 1) _ (by omega) (Fr.tr fr Fr.pI) fun k hk => ?_
      rw [hI_if]
      by_cases hki : k = i
      · subst hki; rw [if_pos rfl, hv]
      · rw [if_neg hki]; exact I k (by omega)
    cases late
    · exact ⟨fun _ => ⟨vin (by omega), go _ rfl⟩, fun z => absurd rfl z⟩
    · exact ⟨fun z => absurd z (by decide), fun _ => ⟨vin (by omega), go _ rfl⟩⟩
theorem ok_layStates {F : Hp → Prop} {late : Bool} {w : Nat → Nat → Int32} (hd : 4 ≤ d) (hS : Std h.2.2) (V : VS σ) (m : MC σ h) (ak : Asked σ h late w)
    (hq : ∀ g, Fr [112, 113] [] h g → MS σ w g → KS σ g → F g) : OKv d mX12_layStates [.ref 91, .int (bI late)] h F X := by
  have hD := V.d.2
  have fin : ∀ g, Fr [112] [] h g → MS σ w g → E mX12_layStates 3 0 0 69 [(0, .ref 91)] [] g (Qv F) X := fun g fr ms =>
    sgX12_layStates_69 (Nat.le_refl _) (fr.sd hS) (lp_kinds71 (Nat.le_refl _) (fr.sd hS) V (m.fr fr) (fun g2 fr2 ks => hq g2 (Fr.tr (Fr.mono fr) (Fr.mono fr2)) (ms.fr fr2 fun _ => rfl) ks) (nD σ) 0 g (by omega) ⟨Fr.rf, fun a b ha => absurd ha (Nat.not_lt_zero _), fun b h1 => absurd h1 (Nat.not_lt_zero _)⟩)
  refine enX12_layStates _ hd hS (lp_states2 (Nat.le_refl _) hS m (fun g fr ms => ?_) hD 960 0 h (by omega) Fr.rf fun k hk => absurd hk (Nat.not_lt_zero _))
  rw [fr.i 91 36, fr.i 91 37, fr.i 91 38]
  obtain ⟨e1, e2⟩ | ⟨k, j, x, hk, hj, e1, e2, e3, e4⟩ := ak
  · subst e2
    exact ⟨fun _ => fin g fr ms, fun z => absurd e1 z⟩
  · have nn : ¬ nI k = -1 := nI_neg (by omega)
    have ea : (16 : Int32) * nI k + nI j = nI (16 * k + j) := by rw [lit_nI 16, pk_mul, nI_add]
    subst e4
    rw [e1, e2, e3, ea, nI_clamp (by omega)]
    refine ⟨fun z => absurd z nn, fun _ => ⟨vin (by omega), fin _ (Fr.tr fr Fr.pI) fun a b ha hbb => ?_⟩⟩
    rw [hI_if]
    show _ = if a = k ∧ b = j then x else wS σ late a b
    by_cases q : a = k ∧ b = j
    · rw [if_pos q, if_pos (by omega)]
    · rw [if_neg q, if_neg (by omega)]
      exact ms a b ha hbb
end KINDS
