/-! the reference's ties -/
section TREEM
variable {σ h : Hp} {d : Nat} {X : String → Hp → Prop} {w : Nat → Nat → Int32} {s : Tr}
def TM (M : Nat) (s : Tr) (g : Hp) : Prop := (∀ a, a < M → g.1 118 a = nI (s.1 a)) ∧ (∀ a b, a < M → bt (g.1 119 a) b = s.2.1 a b)
def LT (σ : Hp) (w : Nat → Nat → Int32) (h g : Hp) (i j : Nat) : Prop :=
  Fr [114, 117, 118, 119] [] h g ∧ (∀ k, k < i → g.1 114 k = -1 ∧ g.1 118 k = nI k ∧ g.1 119 k = 0) ∧
  (∀ a b, a < b → b < nM σ → (a + 1 < i ∨ (a + 1 = i ∧ b < j)) → g.1 117 (16 * a + b) = wt σ w a b)
theorem MS.fr {g : Hp} {L : List Nat} {fs : List (Nat × Nat)} (m : MS σ w h) (f : Fr L fs h g) (q : ∀ k, inW L fs 112 k = false) : MS σ w g := fun k j hk hj => (f.i 112 _ (q _)).trans (m k j hk hj)
theorem lp_lt35 {F : Hp → Prop} (hd : 5 ≤ d) (hS : Std h.2.2) (V : VS σ) (m : MC σ h) (ms : MS σ w h) {i : Nat} (hi : i < nM σ)
    (nx : ∀ g, LT σ w h g (i + 1) (nM σ) → E mX12_layTree d 0 0 2 [(0, .ref 91), (1, .int (nI (i + 1)))] [] g (Qv F) X) : ∀ (n j : Nat) (g : Hp), j + n = nM σ → i < j → LT σ w h g (i + 1) j →
    E mX12_layTree d 0 0 35 [(0, .ref 91), (1, .int (nI i)), (2, .int (nI j))] [] g (Qv F) X := by
  have hM := V.m.2
  intro n
  induction n with
  | zero =>
    intro j g e hij I
    have : j = nM σ := by omega
    subst this
    have mg := m.fr I.1
    refine sgX12_layTree_35 _ _ hd (I.1.sd hS) ⟨fun _ => ?_, fun z => absurd (by rw [mg.i 91 3, V.m.1]; exact nI_le (Nat.le_refl _) (by omega)) z⟩
    rw [nI_1]
    exact nx g I
  | succ n ih =>
    intro j g e hij I
    have hj : j < nM σ := by omega
    have mg := m.fr I.1
    refine sgX12_layTree_35 _ _ hd (I.1.sd hS) ⟨fun z => absurd z (by rw [mg.i 91 3, V.m.1]; exact nI_ge hj (by omega)), fun _ => ok_weighs hd (I.1.sd hS) V mg (ms.fr I.1 fun _ => rfl) (by omega) (by omega) ?_⟩
    have ei : (16 : Int32) * nI i + nI j = nI (16 * i + j) := by rw [lit_nI 16, pk_mul, nI_add]
    rw [ei, nI_1, nI_clamp (by omega)]
    refine ⟨vin (by omega), ih (j + 1) _ (by omega) (by omega) ⟨Fr.tr I.1 Fr.pI, fun k hk => ?_, fun a b hab hb' hlt => ?_⟩⟩
    · rw [hI_c (by decide), hI_c (by decide), hI_c (by decide)]
      exact I.2.1 k hk
    · rw [hI_if]
      by_cases he : 16 * a + b = 16 * i + j
      · have h1 : a = i := by omega
        have h2 : b = j := by omega
        rw [if_pos he, h1, h2]
      · rw [if_neg he]
        refine I.2.2 a b hab hb' ?_
        obtain q | ⟨q1, q2⟩ := hlt
        · exact Or.inl q
        · refine Or.inr ⟨q1, ?_⟩
          have : a = i := by omega
          subst this
          omega
theorem lp_lt2 {F : Hp → Prop} (hd : 5 ≤ d) (hS : Std h.2.2) (V : VS σ) (m : MC σ h) (ms : MS σ w h)
    (nx : ∀ g, LT σ w h g (nM σ) (nM σ) → E mX12_layTree d 0 0 74 [(0, .ref 91), (1, .int 1)] [] g (Qv F) X) : ∀ (n i : Nat) (g : Hp), i + n = nM σ → LT σ w h g i (nM σ) →
    E mX12_layTree d 0 0 2 [(0, .ref 91), (1, .int (nI i))] [] g (Qv F) X := by
  have hM := V.m.2
  intro n
  induction n with
  | zero =>
    intro i g e I
    have : i = nM σ := by omega
    subst this
    have mg := m.fr I.1
    exact sgX12_layTree_2 _ hd (I.1.sd hS) ⟨fun _ => nx g I, fun z => absurd (by rw [mg.i 91 3, V.m.1]; exact nI_le (Nat.le_refl _) (by omega)) z⟩
  | succ n ih =>
    intro i g e I
    have hi : i < nM σ := by omega
    have mg := m.fr I.1
    refine sgX12_layTree_2 _ hd (I.1.sd hS) ⟨fun z => absurd z (by rw [mg.i 91 3, V.m.1]; exact nI_ge hi (by omega)), fun _ => ⟨vin (by omega), vin (by omega), vin (by omega), ?_⟩⟩
    rw [nI_1, nI_clamp (by omega)]
    refine lp_lt35 hd hS V m ms hi (fun g' I' => ih (i + 1) g' (by omega) I') (nM σ - (i + 1)) (i + 1) _ (by omega) (by omega) ⟨Fr.tr (Fr.tr (Fr.tr I.1 Fr.pI) Fr.pI) Fr.pI, fun k hk => ?_, fun a b hab hb' hlt => ?_⟩
    · rw [hI_c (by decide), hI_c (by decide), hI_if, hI_c (by decide), hI_if, hI_if, hI_c (by decide), hI_c (by decide)]
      by_cases hki : k = i
      · subst hki
        rw [if_pos rfl, if_pos rfl, if_pos rfl]; exact ⟨rfl, rfl, rfl⟩
      · rw [if_neg hki, if_neg hki, if_neg hki]; exact I.2.1 k (by omega)
    · rw [hI_c (by decide), hI_c (by decide), hI_c (by decide)]
      refine I.2.2 a b hab hb' ?_
      obtain q | ⟨q1, q2⟩ := hlt
      · by_cases h1 : a + 1 < i
        · exact Or.inl h1
        · exact Or.inr ⟨by omega, hb'⟩
      · omega
theorem nI_max {a b : Nat} (ha : a < 2 ^ 31) (hb' : b < 2 ^ 31) : (if nI a < nI b then nI b else nI a) = nI (max a b) := by
  by_cases q : a < b
  · rw [if_pos (nI_lt q hb'), Nat.max_eq_right (by omega)]
  · rw [if_neg (Int32.not_lt.mpr (nI_le (by omega) ha)), Nat.max_eq_left (by omega)]
theorem nI_min {a b : Nat} (ha : a < 2 ^ 31) (hb' : b < 2 ^ 31) : (if nI b < nI a then nI b else nI a) = nI (min a b) := by
  by_cases q : b < a
  · rw [if_pos (nI_lt q ha), Nat.min_eq_right (by omega)]
  · rw [if_neg (Int32.not_lt.mpr (nI_le (by omega) hb')), Nat.min_eq_left (by omega)]
theorem lp_275 {F : Hp → Prop} {x y : Nat} (hd : 5 ≤ d) (hS : Std h.2.2) (V : VS σ) (m : h.1 91 3 = nI (nM σ)) (J : JT (nM σ) s) (hx : x < nM σ) (hy : y < nM σ) (T1 : ∀ a, a < nM σ → h.1 118 a = nI (s.1 a))
    (nx : ∀ g, Fr [118] [] h g → (∀ a, a < nM σ → g.1 118 a = nI ((tieT s x y).1 a)) → E mX12_layTree d 0 0 74 [(0, .ref 91), (1, .int 1)] [] g (Qv F) X) : ∀ (n i : Nat) (g : Hp), i + n = nM σ → Fr [118] [] h g →
    (∀ a, a < nM σ → g.1 118 a = nI (if a < i then (tieT s x y).1 a else s.1 a)) →
    E mX12_layTree d 0 0 275 [(0, .ref 91), (1, .int 1), (5, .int (nI (max (s.1 x) (s.1 y)))), (6, .int (nI (min (s.1 x) (s.1 y)))), (7, .int (nI i))] [] g (Qv F) X := by
  have hM := V.m.2
  have bx := J.bun x hx
  have by' := J.bun y hy
  intro n
  induction n with
  | zero =>
    intro i g e fr I
    have : i = nM σ := by omega
    subst this
    exact sgX12_layTree_275 _ _ _ _ hd (fr.sd hS) ⟨fun _ => nx g fr fun a ha => by rw [I a ha, if_pos ha], fun z => absurd (by rw [fr.i 91 3, m]; exact nI_le (Nat.le_refl _) (by omega)) z⟩
  | succ n ih =>
    intro i g e fr I
    have hi : i < nM σ := by omega
    have bi := J.bun i hi
    have ei : g.1 118 i = nI (s.1 i) := by rw [I i hi, if_neg (by omega)]
    have go : E mX12_layTree d 0 0 275 [(0, .ref 91), (1, .int 1), (5, .int (nI (max (s.1 x) (s.1 y)))), (6, .int (nI (min (s.1 x) (s.1 y)))), (7, .int (nI (i + 1)))] [] (hI g 118 i (nI ((tieT s x y).1 i))) (Qv F) X := ih (i + 1) _ (by omega) (Fr.tr fr Fr.pI) fun a ha => by
      rw [hI_if]
      by_cases hk : a = i
      · subst hk
        rw [if_pos rfl, if_pos (by omega)]
      · rw [if_neg hk, I a ha]
        by_cases q : a < i
        · rw [if_pos q, if_pos (by omega)]
        · rw [if_neg q, if_neg (by omega)]
    rw [tie_b] at go
    refine sgX12_layTree_275 _ _ _ _ hd (fr.sd hS) ⟨fun z => absurd z (by rw [fr.i 91 3, m]; exact nI_ge hi (by omega)), fun _ => ?_⟩
    rw [nI_1, nI_clamp (by omega), ei, nI_eq (by omega) (by omega)]
    refine ⟨vin (by omega), fun z => ⟨vin (by omega), ?_⟩, fun z => ⟨vin (by omega), vin (by omega), ?_⟩⟩
    · rw [if_pos z] at go; exact go
    · rw [if_neg z] at go; exact go
theorem pkM {g : Hp} (V : VS σ) (J : JT (nM σ) s) (hw : ∀ a b, a < b → b < nM σ → g.1 117 (16 * a + b) = wt σ w a b) (T : TM (nM σ) s g) : pkA (g.1 117) (sepM g) (nM σ) (nM σ) = pkA (wtW σ w) (sepT s) (nM σ) (nM σ) := by
  have hM := V.m.2
  refine (pkA_mst hM (fun a b h1 h2 => by rw [hw a b h1 h2, wtW_k (by omega)]) (fun a b h1 h2 => ?_) (nM σ) (Nat.le_refl _)).1
  have ba := J.bun a (by omega)
  have bb := J.bun b h2
  rw [sepM, sepT, T.1 a (by omega), T.1 b h2, decide_eq_decide.mpr (nI_eq (by omega) (by omega))]
theorem lp_74 {F : Hp → Prop} (hd : 5 ≤ d) (hS : Std h.2.2) (V : VS σ) (m : h.1 91 3 = nI (nM σ)) (hw : ∀ a b, a < b → b < nM σ → h.1 117 (16 * a + b) = wt σ w a b)
    (nx : ∀ g, Fr [118, 119] [] h g → TM (nM σ) (frs σ w) g → JT (nM σ) (frs σ w) → E mX12_layTree d 0 0 328 [(0, .ref 91), (2, .int 0), (3, .int 0)] [] g (Qv F) X) : ∀ (n : Nat) (s : Tr) (g : Hp), n ≤ 16 → Fr [118, 119] [] h g → TM (nM σ) s g → JT (nM σ) s →
    fb_ct (fixp s) (nM σ) ≤ n → finT (wtW σ w) (nM σ) n s = frs σ w →
    E mX12_layTree d 0 0 74 [(0, .ref 91), (1, .int 1)] [] g (Qv F) X := by
  have hM := V.m.2
  intro n
  induction n with
  | zero =>
    intro s g hn fr T J hc ef
    rw [finT] at ef
    subst ef
    have z0 : nM σ = 0 := by
      by_cases q : nM σ = 0
      · exact q
      · have b0 := (J.bun 0 (by omega)).1
        have : 0 < fb_ct (fixp (frs σ w)) (nM σ) := fb_ct_pos.mpr ⟨0, by omega, decide_eq_true (by omega)⟩
        omega
    have hS' := fr.sd hS
    have eM : g.1 91 3 = nI (nM σ) := by rw [fr.i 91 3, m]
    refine sgX12_layTree_74 _ hd hS' ⟨fun z => absurd z (by decide), fun _ => sgX12_layTree_82 _ _ hd hS' ⟨fun _ => ⟨fun _ => ⟨fun _ => sgX12_layTree_74 _ hd hS' ⟨fun _ => nx g fr T J, fun z => absurd rfl z⟩, fun z => absurd rfl z⟩, fun z => absurd rfl z⟩, fun z => absurd ?_ z⟩⟩
    rw [eM, z0]; decide
  | succ n ih =>
    intro s g hn fr T J hc ef
    have hS' := fr.sd hS
    have eM : g.1 91 3 = nI (nM σ) := by rw [fr.i 91 3, m]
    have hwg : ∀ a b, a < b → b < nM σ → g.1 117 (16 * a + b) = wt σ w a b := fun a b h1 h2 => by rw [fr.i 117, hw a b h1 h2]
    refine sgX12_layTree_74 _ hd hS' ⟨fun z => absurd z (by decide), fun _ => ?_⟩
    refine lp_seek hd hS' V eM ?_ (nM σ) 0 (by omega)
    rw [pkM V J hwg T]
    rw [finT] at ef
    refine sgX12_layTree_82 _ _ hd hS' ⟨fun _ => ?_, fun z => absurd (by rw [eM]; exact nI_le (Nat.le_refl _) (by omega)) z⟩
    obtain q | ⟨x, y, hx, hy, hne, q⟩ := pk_some (W := wtW σ w) (s := s) hM
    · rw [if_pos q] at ef
      subst ef
      exact ⟨fun _ => ⟨fun _ => sgX12_layTree_74 _ hd hS' ⟨fun _ => nx g fr T J, fun z => absurd rfl z⟩, fun z => absurd rfl z⟩, fun z => absurd q z⟩
    · have nn : ¬ pkA (wtW σ w) (sepT s) (nM σ) (nM σ) = -1 := by rw [q]; exact nI_neg (by omega)
      rw [if_neg nn, q, nI_clamp (by omega)] at ef
      have e1 : (16 * x + y) / 16 = x := by omega
      have e2 : (16 * x + y) % 16 = y := by omega
      rw [e1, e2] at ef
      refine ⟨fun z => absurd z nn, fun _ => ⟨fun z => absurd z (by decide), fun _ => ?_⟩⟩
      have bx := J.bun x hx
      have by' := J.bun y hy
      rw [q, lit_nI 16, pk_rem (by omega) (by decide) (by decide), pk_div (by omega) (by decide) (by decide), e1, e2, nI_clamp (by omega), nI_clamp (by omega), T.1 x hx, T.1 y hy, nI_max (by omega) (by omega), nI_min (by omega) (by omega)]
      refine ⟨vin (by omega), vin (by omega), vin (by omega), vin (by omega), vin (by omega), vin (by omega), vin (by omega), vin (by omega), ?_⟩
      have f0 : Fr [119] [] g (hI (hI g 119 x (g.1 119 x ||| (1 : Int32) <<< (nI y &&& 31))) 119 y ((hI g 119 x (g.1 119 x ||| (1 : Int32) <<< (nI y &&& 31))).1 119 y ||| (1 : Int32) <<< (nI x &&& 31))) := Fr.tr Fr.pI Fr.pI
      have fm : Fr [118, 119] [] h (hI (hI g 119 x (g.1 119 x ||| (1 : Int32) <<< (nI y &&& 31))) 119 y ((hI g 119 x (g.1 119 x ||| (1 : Int32) <<< (nI y &&& 31))).1 119 y ||| (1 : Int32) <<< (nI x &&& 31))) := Fr.tr fr (Fr.mono f0)
      refine lp_275 (h := hI (hI g 119 x (g.1 119 x ||| (1 : Int32) <<< (nI y &&& 31))) 119 y ((hI g 119 x (g.1 119 x ||| (1 : Int32) <<< (nI y &&& 31))).1 119 y ||| (1 : Int32) <<< (nI x &&& 31))) hd (f0.sd hS') V (by rw [f0.i 91 3, eM]) J hx hy (fun a ha => by rw [f0.i 118 a]; exact T.1 a ha) (fun g2 fr2 T2 => ?_) (nM σ) 0 _ (by omega) Fr.rf (fun a ha => by rw [if_neg (by omega), f0.i 118 a]; exact T.1 a ha)
      refine ih (tieT s x y) g2 (by omega) (Fr.tr fm (Fr.mono fr2)) ⟨T2, fun a b ha => ?_⟩ (J.tie hx hy hne) (by have := tie_less J hx hy hne; omega) ef
      have e2 : (tieT s x y).2.1 a b = (s.2.1 a b || (decide (a = x ∧ b = y) || decide (a = y ∧ b = x))) := rfl
      have hxy : x ≠ y := fun z => hne (by rw [z])
      rw [fr2.i 119 a, e2, ← T.2 a b ha, hI_if]
      by_cases h1 : a = y
      · subst h1
        rw [if_pos rfl, hI_j (fun z => hxy z.symm), b_or, bt_one (by omega), decide_eq_false (p := a = x ∧ b = a) (fun z => hxy z.1.symm), Bool.false_or]
        congr 1
        exact decide_eq_decide.mpr ⟨fun z => ⟨rfl, z⟩, fun z => z.2⟩
      · rw [if_neg h1, hI_if, decide_eq_false (p := a = y ∧ b = x) (fun z => h1 z.1), Bool.or_false]
        by_cases h2 : a = x
        · subst h2
          rw [if_pos rfl, b_or, bt_one (by omega)]
          congr 1
          exact decide_eq_decide.mpr ⟨fun z => ⟨rfl, z⟩, fun z => z.2⟩
        · rw [if_neg h2, decide_eq_false (p := a = x ∧ b = y) (fun z => h2 z.1), Bool.or_false]
end TREEM
