/-! all weights -/
section WEIGHALL
variable {σ h : Hp} {d S : Nat} {X : String → Hp → Prop} {w : Nat → Nat → Int32}
def WInv (σ : Hp) (w : Nat → Nat → Int32) (h g : Hp) (i j : Nat) : Prop :=
  Fr [37, 38, 39, 40] [] h g ∧ (∀ k, k < i → g.1 39 k = (1 : Int32) <<< (nI k &&& 31) ∧ g.1 40 k = 0 ∧ g.1 37 k = -1) ∧
  (∀ a b, a < b → b < nM σ → (a + 1 < i ∨ (a + 1 = i ∧ b < j)) → g.1 38 (16 * a + b) = wt σ w a b)
theorem shw_fr {h g : Hp} {L : List Nat} {fs : List (Nat × Nat)} (s : Shw w S h) (fr : Fr L fs h g) (q : ∀ k, inW L fs (S + 1) k = false ∧ inW L fs (S + 2) k = false ∧ inW L fs (S + 3) k = false) : Shw w S g :=
  s.fr fun m => ⟨fr.l _ _ (q m).1, fr.l _ _ (q m).2.1, fr.l _ _ (q m).2.2⟩
theorem lp_weigh1 {F : Hp → Prop} (sh : ShOK S) (hd : 2 ≤ d) (hS : Std h.2.2) (V : VS σ) (hm : h.1 1 5 = nI (nM σ)) (hs : h.2.2.1 34 2 = some S) (hc : ∀ k, hb (h.2.1 34 3) k = ctd σ k) (s : Shw w S h) {i : Nat} (hi : i < nM σ)
    (nx : ∀ g, WInv σ w h g (i + 1) (nM σ) → E mX3_weighAll d 0 0 2 [(0, .ref 34), (1, .int (nI (i + 1)))] [] g (Qv F) X) : ∀ (n j : Nat) (g : Hp), j + n = nM σ → i < j → WInv σ w h g (i + 1) j →
    E mX3_weighAll d 0 0 40 [(0, .ref 34), (1, .int (nI i)), (2, .int (nI j))] [] g (Qv F) X := by
  have hM := V.m.2
  intro n
  induction n with
  | zero =>
    intro j g e hij I
    have : j = nM σ := by omega
    subst this
    have e1 : g.1 1 5 = nI (nM σ) := by rw [I.1.i 1 5, hm]
    refine sgX3_weighAll_40 _ _ hd (I.1.sd hS) ⟨fun _ => ?_, fun z => absurd (by rw [e1]; exact nI_le (Nat.le_refl _) (by omega)) z⟩
    rw [nI_1]
    exact nx g I
  | succ n ih =>
    intro j g e hij I
    have hj : j < nM σ := by omega
    have e1 : g.1 1 5 = nI (nM σ) := by rw [I.1.i 1 5, hm]
    have hSg := I.1.sd hS
    have sg : Shw w S g := shw_fr s I.1 fun k => by
      obtain e | e | e := sh.2.2.2.2 <;> subst e <;> exact ⟨rfl, rfl, rfl⟩
    refine sgX3_weighAll_40 _ _ hd hSg ⟨fun z => absurd z (by rw [e1]; exact nI_ge hj (by omega)), fun _ => ?_⟩
    refine ok_weightOf (σ := σ) (w := w) sh hd hSg V (by rw [I.1.1]; exact hs) (fun k => by rw [I.1.l 34 3]; exact hc k) sg (by omega) (by omega) ?_
    have ei : nI i * (16 : Int32) + nI j = nI (16 * i + j) := by rw [lit_nI 16, pk_mul, nI_add, Nat.mul_comm]
    rw [ei, nI_1, nI_clamp (by omega)]
    refine ⟨vin (by omega), ih (j + 1) _ (by omega) (by omega) ⟨Fr.tr I.1 Fr.pI, fun k hk => ?_, fun a b hab hb' hlt => ?_⟩⟩
    · rw [hI_c (by decide), hI_c (by decide), hI_c (by decide)]
      exact I.2.1 k hk
    · rw [hI_if]
      by_cases he : 16 * a + b = 16 * i + j
      · have h1 : a = i := by omega
        have h2 : b = j := by omega
        rw [if_pos he, h1, h2]
      · rw [if_neg he]
        refine I.2.2 a b hab hb' ?_
        obtain q | ⟨q1, q2⟩ := hlt
        · exact Or.inl q
        · refine Or.inr ⟨q1, ?_⟩
          have : a = i := by omega
          subst this
          omega
theorem lp_weighAll {F : Hp → Prop} (sh : ShOK S) (hd : 2 ≤ d) (hS : Std h.2.2) (V : VS σ) (hm : h.1 1 5 = nI (nM σ)) (hs : h.2.2.1 34 2 = some S) (hc : ∀ k, hb (h.2.1 34 3) k = ctd σ k) (s : Shw w S h)
    (hq : ∀ g, WInv σ w h g (nM σ) (nM σ) → F g) : ∀ (n i : Nat) (g : Hp), i + n = nM σ → WInv σ w h g i (nM σ) →
    E mX3_weighAll d 0 0 2 [(0, .ref 34), (1, .int (nI i))] [] g (Qv F) X := by
  have hM := V.m.2
  intro n
  induction n with
  | zero =>
    intro i g e I
    have : i = nM σ := by omega
    subst this
    have e1 : g.1 1 5 = nI (nM σ) := by rw [I.1.i 1 5, hm]
    refine sgX3_weighAll_2 _ hd (I.1.sd hS) ⟨fun _ => hq g I, fun z => absurd (by rw [e1]; exact nI_le (Nat.le_refl _) (by omega)) z⟩
  | succ n ih =>
    intro i g e I
    have hi : i < nM σ := by omega
    have e1 : g.1 1 5 = nI (nM σ) := by rw [I.1.i 1 5, hm]
    refine sgX3_weighAll_2 _ hd (I.1.sd hS) ⟨fun z => absurd z (by rw [e1]; exact nI_ge hi (by omega)), fun _ => ⟨vin (by omega), vin (by omega), vin (by omega), ?_⟩⟩
    rw [nI_1, nI_clamp (by omega)]
    refine lp_weigh1 sh hd hS V hm hs hc s hi (fun g' I' => ih (i + 1) g' (by omega) I') (nM σ - (i + 1)) (i + 1) _ (by omega) (by omega) ⟨Fr.tr (Fr.tr (Fr.tr I.1 Fr.pI) Fr.pI) Fr.pI, fun k hk => ?_, fun a b hab hb' hlt => ?_⟩
    · rw [hI_c (by decide), hI_c (by decide), hI_if, hI_c (by decide), hI_if, hI_if, hI_c (by decide), hI_c (by decide)]
      by_cases hki : k = i
      · subst hki
        rw [if_pos rfl, if_pos rfl, if_pos rfl]; exact ⟨rfl, rfl, rfl⟩
      · rw [if_neg hki, if_neg hki, if_neg hki]; exact I.2.1 k (by omega)
    · rw [hI_c (by decide), hI_c (by decide), hI_c (by decide)]
      refine I.2.2 a b hab hb' ?_
      obtain q | ⟨q1, q2⟩ := hlt
      · by_cases h1 : a + 1 < i
        · exact Or.inl h1
        · exact Or.inr ⟨by omega, hb'⟩
      · omega
theorem ok_weighAll {F : Hp → Prop} (sh : ShOK S) (hd : 3 ≤ d) (hS : Std h.2.2) (V : VS σ) (hm : h.1 1 5 = nI (nM σ)) (hs : h.2.2.1 34 2 = some S) (hc : ∀ k, hb (h.2.1 34 3) k = ctd σ k) (s : Shw w S h)
    (hq : ∀ g, WInv σ w h g (nM σ) (nM σ) → F g) : OKv d mX3_weighAll [.ref 34] h F X :=
  enX3_weighAll hd hS (lp_weighAll sh (Nat.le_refl _) hS V hm hs hc s hq (nM σ) 0 h (by omega) ⟨Fr.rf, fun k hk => absurd hk (by omega), fun a b _ _ q => by omega⟩)
end WEIGHALL
