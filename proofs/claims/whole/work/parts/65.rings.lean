/-! parents, by rings -/
section RINGS
variable {σ h : Hp} {d : Nat} {X : String → Hp → Prop} {s : Tr} {M : Nat}
def dpT (s : Tr) (m : Nat) : Nat := s.2.2 (s.1 m) m
theorem dpT_0 (hM : M ≤ 16) (J : JT M s) {m : Nat} (hm : m < M) : dpT s m = 0 ↔ s.1 m = m := by
  refine ⟨fun z => ?_, fun z => by rw [dpT, z]; exact J.own m hm⟩
  by_cases q : s.1 m = m
  · exact q
  · obtain ⟨b, _, _, h3, _, _⟩ := paT_ex hM J hm q
    rw [dpT] at z
    omega
/-- a neighbour that is nearer is the parent -/
theorem near_pa (hM : M ≤ 16) (J : JT M s) {m b : Nat} (hm : m < M) (hbb : s.2.1 m b = true) (hd : dpT s b < dpT s m) : dpT s m = dpT s b + 1 ∧ paT s m = nI b := by
  have hs := J.sym m b hbb
  have hB := J.bun m hm
  have e : dpT s b = s.2.2 (s.1 m) b := by rw [dpT, hs.2.2.1]
  have n := J.nxt (s.1 m) m b (by omega) hbb hB.2
  have e2 : dpT s m = s.2.2 (s.1 m) m := rfl
  have h3 : s.2.2 (s.1 m) b + 1 = s.2.2 (s.1 m) m := by omega
  exact ⟨by omega, paT_yes hM J hm hbb h3⟩
theorem pa_dp (hM : M ≤ 16) (J : JT M s) {m : Nat} (hm : m < M) (e : dpT s m ≠ 0) : ∃ b, b < M ∧ s.2.1 m b = true ∧ dpT s b + 1 = dpT s m ∧ paT s m = nI b ∧ s.1 b = s.1 m := by
  obtain ⟨b, h1, h2, h3, h4, h5⟩ := paT_ex hM J hm (fun z => e ((dpT_0 hM J hm).mpr z))
  exact ⟨b, h1, h2, by rw [dpT, h4]; exact h3, h5, h4⟩
theorem bt_zero {x : Int32} : x = 0 ↔ ∀ k, bt x k = false := ⟨fun z k => by rw [z, b_0], fun z => b_ext fun k _ => by rw [z k, b_0]⟩
theorem bt_nz {x : Int32} (hx : ¬ x = 0) : ∃ k, k < 32 ∧ bt x k = true := by
  refine Classical.byContradiction fun q => hx (b_ext fun k hk => ?_)
  rw [b_0]
  cases e : bt x k
  · rfl
  · exact absurd ⟨k, hk, e⟩ q
def DN (s : Tr) (M k : Nat) (x : Int32) : Prop := ∀ b, bt x b = (decide (b < M) && decide (dpT s b ≤ k))
theorem lp_424 {F : Hp → Prop} {x2 x3 x4 x6 : Int32} {m c : Nat} (hd : 5 ≤ d) (hS : Std h.2.2) (hm : m < 16) (hc : c < 32) (h6 : ∀ b, bt x6 b = decide (b = c))
    (nx : ∀ g, Fr [] [(114, m)] h g → g.1 114 m = nI c → E mX12_layTree d 0 0 378 [(0, .ref 91), (2, .int x2), (3, .int x3), (4, .int (x4 ||| (1 : Int32) <<< (nI m &&& 31))), (5, .int (nI (m + 1)))] [] g (Qv F) X) : ∀ (n j : Nat) (g : Hp), j + n = c → Fr [] [(114, m)] h g → g.1 114 m = nI j →
    E mX12_layTree d 0 0 424 [(0, .ref 91), (2, .int x2), (3, .int x3), (4, .int x4), (5, .int (nI m)), (6, .int x6)] [] g (Qv F) X := by
  intro n
  induction n with
  | zero =>
    intro j g e fr I
    have : j = c := by omega
    subst this
    refine sgX12_layTree_424 _ _ _ _ _ hd (fr.sd hS) ⟨vin (by omega), ?_⟩
    have em : nI m + (1 : Int32) = nI (m + 1) := nI_1 m
    rw [nI_clamp (by omega), I, bt_shr hc, h6, decide_eq_true rfl, em]
    exact ⟨fun z => absurd z (by decide), fun _ => nx g fr I⟩
  | succ n ih =>
    intro j g e fr I
    refine sgX12_layTree_424 _ _ _ _ _ hd (fr.sd hS) ⟨vin (by omega), ?_⟩
    have ej : nI j + (1 : Int32) = nI (j + 1) := nI_1 j
    rw [nI_clamp (by omega), I, bt_shr (by omega), h6, decide_eq_false (by omega), ej]
    have q : inW [] [(114, m)] 114 m = true := by simp [inW]
    exact ⟨fun _ => ⟨vin (by omega), vin (by omega), ih (j + 1) _ (by omega) (Fr.tr fr (Fr.pI q)) hI_k⟩, fun z => absurd rfl z⟩
def RG (s : Tr) (M : Nat) (g : Hp) (done : Nat → Bool) : Prop := ∀ m, m < M → g.1 114 m = if done m then paT s m else -1
theorem lp_378 {F : Hp → Prop} {k : Nat} {x2 x3 : Int32} (hd : 5 ≤ d) (hS : Std h.2.2) (V : VS σ) (m : h.1 91 3 = nI (nM σ)) (J : JT (nM σ) s) (T : ∀ a b, a < nM σ → bt (h.1 119 a) b = s.2.1 a b) (h2 : DN s (nM σ) k x2)
    (nx : ∀ g x4, Fr [114] [] h g → DN s (nM σ) (k + 1) x4 → RG s (nM σ) g (fun m => decide (dpT s m ≤ k + 1)) → E mX12_layTree d 0 0 364 [(0, .ref 91), (2, .int x4), (3, .int (x3 + 1))] [] g (Qv F) X) : ∀ (n i : Nat) (g : Hp) (x4 : Int32), i + n = nM σ → Fr [114] [] h g →
    (∀ b, bt x4 b = (decide (b < nM σ) && (decide (dpT s b ≤ k) || (decide (b < i) && decide (dpT s b ≤ k + 1))))) → RG s (nM σ) g (fun m => decide (dpT s m ≤ k) || (decide (m < i) && decide (dpT s m ≤ k + 1))) →
    E mX12_layTree d 0 0 378 [(0, .ref 91), (2, .int x2), (3, .int x3), (4, .int x4), (5, .int (nI i))] [] g (Qv F) X := by
  have hM := V.m.2
  intro n
  induction n with
  | zero =>
    intro i g x4 e fr I4 R
    have : i = nM σ := by omega
    subst this
    refine sgX12_layTree_378 _ _ _ _ hd (fr.sd hS) ⟨fun _ => nx g x4 fr (fun b => ?_) (fun a ha => ?_), fun z => absurd (by rw [fr.i 91 3, m]; exact nI_le (Nat.le_refl _) (by omega)) z⟩
    · rw [I4 b]
      by_cases hbm : b < nM σ
      · rw [decide_eq_true hbm, Bool.true_and, Bool.true_and, ← Bool.decide_or]
        exact decide_eq_decide.mpr (by omega)
      · rw [decide_eq_false hbm, Bool.false_and, Bool.false_and]
    · have e2 : (decide (dpT s a ≤ k) || (decide (a < nM σ) && decide (dpT s a ≤ k + 1))) = decide (dpT s a ≤ k + 1) := by
        rw [decide_eq_true ha, Bool.true_and, ← Bool.decide_or]
        exact decide_eq_decide.mpr (by omega)
      have := R a ha
      simp only [e2] at this
      exact this
  | succ n ih =>
    intro i g x4 e fr I4 R
    have hi : i < nM σ := by omega
    have hS' := fr.sd hS
    have skip : (dpT s i ≤ k ∨ ¬ dpT s i ≤ k + 1) → E mX12_layTree d 0 0 378 [(0, .ref 91), (2, .int x2), (3, .int x3), (4, .int x4), (5, .int (nI (i + 1)))] [] g (Qv F) X := fun hz => by
      have ee : ∀ b, (decide (dpT s b ≤ k) || (decide (b < i + 1) && decide (dpT s b ≤ k + 1))) = (decide (dpT s b ≤ k) || (decide (b < i) && decide (dpT s b ≤ k + 1))) := fun b => by
        rw [← Bool.decide_and, ← Bool.decide_and, ← Bool.decide_or, ← Bool.decide_or]
        refine decide_eq_decide.mpr ?_
        by_cases hbi : b = i
        · subst hbi; omega
        · omega
      refine ih (i + 1) g x4 (by omega) fr (fun b => ?_) fun a ha => ?_
      · rw [I4 b, ee b]
      · have := R a ha
        simp only [ee a] at this ⊢
        exact this
    refine sgX12_layTree_378 _ _ _ _ hd hS' ⟨fun z => absurd z (by rw [fr.i 91 3, m]; exact nI_ge hi (by omega)), fun _ => ⟨vin (by omega), ?_⟩⟩
    rw [bt_shr (by omega), h2 i, decide_eq_true hi, Bool.true_and, nI_1, nI_clamp (by omega), fr.i 119 i]
    have nb : ∀ b, bt (h.1 119 i &&& x2) b = (s.2.1 i b && (decide (b < nM σ) && decide (dpT s b ≤ k))) := fun b => by rw [b_and, T i b hi, h2 b]
    refine ⟨fun z => skip (Or.inl ?_), fun z => ?_⟩
    · have : bI (decide (dpT s i ≤ k)) = bI true := z
      exact of_decide_eq_true (bI_inj.mp this)
    have hz : ¬ dpT s i ≤ k := fun q => z (by rw [decide_eq_true q]; rfl)
    refine ⟨fun q => skip (Or.inr fun q2 => ?_), fun q => ⟨vin (by omega), ?_⟩⟩
    · obtain ⟨b, h1, h2', h3, _, _⟩ := pa_dp hM J hi (by omega)
      have := bt_zero.mp q b
      rw [nb b, h2', decide_eq_true h1, decide_eq_true (p := dpT s b ≤ k) (by omega)] at this
      cases this
    · obtain ⟨c, hc, q⟩ := bt_nz q
      rw [nb c] at q
      simp only [Bool.and_eq_true, decide_eq_true_eq] at q
      obtain ⟨q1, q2, q3⟩ := q
      obtain ⟨p1, p2⟩ := near_pa hM J hi q1 (by omega)
      refine lp_424 (c := c) (h := hI g 114 i 0) hd hS' (by omega) hc (fun b => ?_) (fun g2 fr2 e2 => ?_) c 0 _ (by omega) Fr.rf hI_k
      · rw [nb b]
        by_cases hbc : b = c
        · subst hbc
          rw [q1, decide_eq_true q2, decide_eq_true q3, decide_eq_true rfl]; rfl
        · rw [decide_eq_false hbc]
          refine Bool.eq_false_iff.mpr fun z2 => hbc ?_
          simp only [Bool.and_eq_true, decide_eq_true_eq] at z2
          obtain ⟨z1, _, z3⟩ := z2
          have p3 := (near_pa hM J hi z1 (by omega)).2
          rw [p2] at p3
          exact (nI_inj (by omega) (by omega) p3).symm
      · have cf : ∀ c' k', inW [114] [] c' k' = false → inW [] [(114, i)] c' k' = false := fun c' k' hc' => by
          simp [inW] at hc' ⊢
          intro z; exact absurd z hc'
        have f2 : Fr [114] [] h g2 := Fr.tr fr (Fr.tr (Fr.pI (c := 114) (k := i) (v := 0)) ⟨fr2.1, fun c' k' hc' => fr2.2 c' k' (cf c' k' hc')⟩)
        refine ih (i + 1) g2 _ (by omega) f2 (fun b => ?_) fun a ha => ?_
        · rw [b_or, bt_one (by omega), I4 b]
          by_cases hbi : b = i
          · subst hbi
            rw [decide_eq_true hi, decide_eq_true (p := b = b) rfl, decide_eq_true (p := b < b + 1) (by omega), decide_eq_true (p := dpT s b ≤ k + 1) (by omega), Bool.or_true]
            simp
          · rw [decide_eq_false hbi, Bool.or_false]
            have : decide (b < i + 1) = decide (b < i) := decide_eq_decide.mpr (by omega)
            rw [this]
        · by_cases hai : a = i
          · subst hai
            have e9 : (decide (dpT s a ≤ k) || decide (a < a + 1) && decide (dpT s a ≤ k + 1)) = true := by rw [decide_eq_true (p := a < a + 1) (by omega), decide_eq_true (p := dpT s a ≤ k + 1) (by omega), Bool.true_and, Bool.or_true]
            show g2.1 114 a = if (decide (dpT s a ≤ k) || decide (a < a + 1) && decide (dpT s a ≤ k + 1)) = true then paT s a else -1
            rw [e2, e9, if_pos rfl, p2]
          · have e3 : g2.1 114 a = g.1 114 a := by
              rw [fr2.i 114 a (by simp [inW]; exact hai), hI_j hai]
            rw [e3]
            have := R a ha
            have e4 : decide (a < i + 1) = decide (a < i) := decide_eq_decide.mpr (by omega)
            simp only [e4]
            exact this
theorem lp_364 {F : Hp → Prop} (hd : 5 ≤ d) (hS : Std h.2.2) (V : VS σ) (m : h.1 91 3 = nI (nM σ)) (J : JT (nM σ) s) (T : ∀ a b, a < nM σ → bt (h.1 119 a) b = s.2.1 a b)
    (hq : ∀ g, Fr [114] [] h g → (∀ a, a < nM σ → g.1 114 a = paT s a) → F g) : ∀ (n k : Nat) (g : Hp) (x2 : Int32), k + n = nM σ → Fr [114] [] h g → DN s (nM σ) k x2 → RG s (nM σ) g (fun m => decide (dpT s m ≤ k)) →
    E mX12_layTree d 0 0 364 [(0, .ref 91), (2, .int x2), (3, .int (nI k))] [] g (Qv F) X := by
  have hM := V.m.2
  intro n
  induction n with
  | zero =>
    intro k g x2 e fr D R
    have : k = nM σ := by omega
    subst this
    refine sgX12_layTree_364 _ _ hd (fr.sd hS) ⟨fun _ => hq g fr fun a ha => ?_, fun z => absurd (by rw [fr.i 91 3, m]; exact nI_le (Nat.le_refl _) (by omega)) z⟩
    have lt := dT_lt J ha
    have := R a ha
    simp only [decide_eq_true (p := dpT s a ≤ nM σ) (Nat.le_of_lt lt), if_true] at this
    exact this
  | succ n ih =>
    intro k g x2 e fr D R
    have hk : k < nM σ := by omega
    refine sgX12_layTree_364 _ _ hd (fr.sd hS) ⟨fun z => absurd z (by rw [fr.i 91 3, m]; exact nI_ge hk (by omega)), fun _ => ?_⟩
    refine lp_378 (h := g) (k := k) hd (fr.sd hS) V (by rw [fr.i 91 3, m]) J (fun a b ha => by rw [fr.i 119 a]; exact T a b ha) D (fun g2 x4 fr2 D2 R2 => ?_) (nM σ) 0 g x2 (by omega) Fr.rf (fun b => ?_) fun a ha => ?_
    · rw [nI_1]
      exact ih (k + 1) g2 x4 (by omega) (Fr.tr fr fr2) D2 R2
    · rw [D b, decide_eq_false (p := b < 0) (Nat.not_lt_zero _), Bool.false_and, Bool.or_false]
    · have := R a ha
      simp only [decide_eq_false (p := a < 0) (Nat.not_lt_zero _), Bool.false_and, Bool.or_false]
      exact this
theorem lp_328 {F : Hp → Prop} (hd : 5 ≤ d) (hS : Std h.2.2) (V : VS σ) (m : h.1 91 3 = nI (nM σ)) (J : JT (nM σ) s) (T : TM (nM σ) s h) (h0 : ∀ a, a < nM σ → h.1 114 a = -1)
    (hq : ∀ g, Fr [114] [] h g → (∀ a, a < nM σ → g.1 114 a = paT s a) → F g) : ∀ (n i : Nat) (x2 : Int32), i + n = nM σ → (∀ b, bt x2 b = (decide (b < i) && decide (s.1 b = b))) →
    E mX12_layTree d 0 0 328 [(0, .ref 91), (2, .int x2), (3, .int (nI i))] [] h (Qv F) X := by
  have hM := V.m.2
  intro n
  induction n with
  | zero =>
    intro i x2 e I
    have : i = nM σ := by omega
    subst this
    refine sgX12_layTree_328 _ _ hd hS ⟨fun _ => lp_364 hd hS V m J T.2 hq (nM σ) 0 h x2 (by omega) Fr.rf (fun b => ?_) fun a ha => ?_, fun z => absurd (by rw [m]; exact nI_le (Nat.le_refl _) (by omega)) z⟩
    · rw [I b]
      by_cases hbm : b < nM σ
      · rw [decide_eq_true hbm, Bool.true_and, Bool.true_and]
        refine decide_eq_decide.mpr ?_
        rw [← dpT_0 hM J hbm]; omega
      · rw [decide_eq_false hbm, Bool.false_and, Bool.false_and]
    · show h.1 114 a = if decide (dpT s a ≤ 0) = true then paT s a else -1
      rw [h0 a ha]
      by_cases q : dpT s a ≤ 0
      · rw [decide_eq_true q, if_pos rfl, paT_no J ha ((dpT_0 hM J ha).mp (by omega))]
      · rw [decide_eq_false q, if_neg (by decide)]
  | succ n ih =>
    intro i x2 e I
    have hi : i < nM σ := by omega
    have bi := J.bun i hi
    refine sgX12_layTree_328 _ _ hd hS ⟨fun z => absurd z (by rw [m]; exact nI_ge hi (by omega)), fun _ => ⟨vin (by omega), ?_⟩⟩
    rw [nI_clamp (by omega), T.1 i hi, nI_1, nI_eq (by omega) (by omega)]
    refine ⟨fun z => ih (i + 1) _ (by omega) fun b => ?_, fun z => ih (i + 1) _ (by omega) fun b => ?_⟩
    · rw [b_or, I b, bt_one (by omega)]
      by_cases hbi : b = i
      · subst hbi
        rw [decide_eq_true z, decide_eq_true (p := b = b) rfl, decide_eq_true (p := b < b + 1) (by omega), Bool.or_true]; rfl
      · rw [decide_eq_false hbi, Bool.or_false]
        have : decide (b < i + 1) = decide (b < i) := decide_eq_decide.mpr (by omega)
        rw [this]
    · rw [b_or, I b, b_0, Bool.or_false]
      by_cases hbi : b = i
      · subst hbi
        rw [decide_eq_false z, Bool.and_false, Bool.and_false]
      · have : decide (b < i + 1) = decide (b < i) := decide_eq_decide.mpr (by omega)
        rw [this]
theorem ok_layTree {F : Hp → Prop} {w : Nat → Nat → Int32} (hd : 6 ≤ d) (hS : Std h.2.2) (V : VS σ) (m : MC σ h) (ms : MS σ w h)
    (hq : ∀ g, Fr [114, 117, 118, 119] [] h g → (∀ a, a < nM σ → g.1 114 a = paT (frs σ w) a) → F g) : OKv d mX12_layTree [.ref 91] h F X := by
  have hM := V.m.2
  refine enX12_layTree hd hS (lp_lt2 (Nat.le_refl _) hS V m ms (fun g I => ?_) (nM σ) 0 h (by omega) ⟨Fr.rf, fun k hk => absurd hk (by omega), fun a b _ _ q => by omega⟩)
  have mg : g.1 91 3 = nI (nM σ) := by rw [I.1.i 91 3, m.i 91 3, V.m.1]
  refine lp_74 (Nat.le_refl _) (I.1.sd hS) V mg (fun a b h1 h2 => I.2.2 a b h1 h2 (by omega)) (fun g2 fr2 T2 J2 => ?_) 16 tr0 g (Nat.le_refl _) Fr.rf ⟨fun a ha => (I.2.1 a ha).2.1, fun a b ha => by rw [(I.2.1 a ha).2.2, b_0]; rfl⟩ (JT.zero _) (Nat.le_trans (fb_ct_le _ _) hM) rfl
  refine lp_328 (Nat.le_refl _) (fr2.sd (I.1.sd hS)) V (by rw [fr2.i 91 3, mg]) J2 T2 (fun a ha => by rw [fr2.i 114 a]; exact (I.2.1 a ha).1) (fun g3 fr3 h3 => hq g3 (Fr.tr I.1 (Fr.tr (Fr.mono fr2) (Fr.mono fr3))) h3) (nM σ) 0 0 (by omega) fun b => ?_
  rw [b_0, decide_eq_false (p := b < 0) (Nat.not_lt_zero _), Bool.false_and]
end RINGS
