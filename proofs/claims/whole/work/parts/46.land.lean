/-! the class's Land and Links -/
theorem tri1 {g : Hp} {a b c n k : Nat} {u v w : Int32} (h1 : a ≠ b) (h2 : a ≠ c) : (hI (hI (hI g a n u) b n v) c n w).1 a k = if k = n then u else g.1 a k := by rw [hI_c h2, hI_c h1, hI_if]
theorem tri2 {g : Hp} {a b c n k : Nat} {u v w : Int32} (h1 : b ≠ a) (h2 : b ≠ c) : (hI (hI (hI g a n u) b n v) c n w).1 b k = if k = n then v else g.1 b k := by rw [hI_c h2, hI_if, hI_c h1]
theorem tri3 {g : Hp} {a b c n k : Nat} {u v w : Int32} (h1 : c ≠ a) (h2 : c ≠ b) : (hI (hI (hI g a n u) b n v) c n w).1 c k = if k = n then w else g.1 c k := by rw [hI_if, hI_c h2, hI_c h1]
section LAND
variable {σ h : Hp} {d : Nat} {X : String → Hp → Prop} {x y l : Int32}
def CL (σ h : Hp) : Prop := h.1 1 0 = σ.1 91 1 ∧ h.1 1 5 = σ.1 91 3 ∧ h.1 1 6 = σ.1 91 4 ∧ h.1 1 8 = σ.1 91 5 ∧ (∀ k, k < nH σ → h.1 5 k = σ.1 95 k) ∧ (∀ k, k < nO σ → h.1 6 k = σ.1 96 k ∧ h.1 7 k = σ.1 97 k)
def stPlace (σ : Hp) (x y l : Int32) : Hp := hI (hI (hI (hI σ 92 (nP σ) x) 93 (nP σ) y) 94 (nP σ) l) 91 2 (nI (nP σ + 1))
theorem stPlace_fr : Fr [92, 93, 94] [(91, 2)] σ (stPlace σ x y l) := Fr.tr (Fr.tr (Fr.tr Fr.pI Fr.pI) Fr.pI) Fr.pI
theorem stPlace_n (h : nP σ < 30) : nP (stPlace σ x y l) = nP σ + 1 := by
  have : (stPlace σ x y l).1 91 2 = nI (nP σ + 1) := hI_k
  rw [nP, this, nI_clamp (by omega)]
theorem stPlace_92 (k : Nat) : (stPlace σ x y l).1 92 k = if k = nP σ then x else σ.1 92 k := by
  rw [stPlace, hI_c (by decide), hI_c (by decide), hI_c (by decide), hI_if]
theorem stPlace_93 (k : Nat) : (stPlace σ x y l).1 93 k = if k = nP σ then y else σ.1 93 k := by
  rw [stPlace, hI_c (by decide), hI_c (by decide), hI_if, hI_c (by decide)]
theorem stPlace_94 (k : Nat) : (stPlace σ x y l).1 94 k = if k = nP σ then l else σ.1 94 k := by
  rw [stPlace, hI_c (by decide), hI_if, hI_c (by decide), hI_c (by decide)]
theorem ok_addPlace {F : Int32 → Hp → Prop} (hd : 1 ≤ d) (hS : Std h.2.2) (V : VS σ) (c : CP σ h) (h0 : nP σ = 30 → F (-1) h)
    (hF : nP σ < 30 → ∀ g, Fr [2, 3, 4] [(1, 1)] h g → CP (stPlace σ x y l) g → F (nI (nP σ)) g) : OKi d mX2_addPlace [.ref 1, .int x, .int y, .int l] h F X := by
  have hP := V.p.2
  refine enX2_addPlace x y l hd hS ⟨fun z => ?_, fun z => h0 ?_⟩
  · rw [c.1] at z
    have h30 : nP σ < 30 := (nI_ltI (b := 30) (by omega) (by omega)).mp z
    rw [c.1, nI_clamp (by omega), nI_1]
    refine ⟨vin h30, vin h30, vin h30, hF h30 _ (Fr.tr (Fr.tr (Fr.tr Fr.pI Fr.pI) Fr.pI) Fr.pI) ⟨?_, fun p hp => ?_⟩⟩
    · rw [hI_k, stPlace_n h30]
    · rw [stPlace_n h30] at hp
      rw [hI_c (by decide), hI_c (by decide), hI_c (by decide), hI_if, hI_c (by decide), hI_c (by decide), hI_if, hI_c (by decide), hI_c (by decide), hI_if, hI_c (by decide), hI_c (by decide), stPlace_92, stPlace_93, stPlace_94]
      by_cases hpn : p = nP σ
      · rw [if_pos hpn, if_pos hpn, if_pos hpn, if_pos hpn, if_pos hpn, if_pos hpn]; exact ⟨rfl, rfl, rfl⟩
      · rw [if_neg hpn, if_neg hpn, if_neg hpn, if_neg hpn, if_neg hpn, if_neg hpn]; exact c.2 p (by omega)
  · rw [c.1] at z
    by_cases hlt : nP σ < 30
    · exact absurd (nI_lt hlt (by omega)) z
    · omega
def CK (σ h : Hp) : Prop := h.1 18 0 = nI (nL σ) ∧ ∀ k, k < nL σ → h.1 19 k = σ.1 109 k ∧ h.1 20 k = σ.1 110 k ∧ h.1 21 k = σ.1 111 k
/-- links of a deed, of the first n -/
def lnk (σ : Hp) (a : Int32) (n : Nat) : Nat := fb_ct (fun k => decide (σ.1 110 k = a) || decide (σ.1 111 k = a)) n
theorem lp_with {F : Int32 → Hp → Prop} {a : Int32} (hS : Std h.2.2) (V : VS σ) (c : CK σ h) (hq : F (nI (lnk σ a (nL σ))) h) : ∀ (n i : Nat), i + n = nL σ →
    E mX4_with d 0 0 4 [(0, .ref 18), (1, .int a), (2, .int (nI (lnk σ a i))), (3, .int (nI i))] [] h (Qi F) X := by
  have hL := V.l.2
  intro n
  induction n with
  | zero =>
    intro i e
    have : i = nL σ := by omega
    subst this
    exact sgX4_with_4 _ _ _ (Nat.zero_le _) hS ⟨fun _ => hq, fun z => absurd (by rw [c.1]; exact nI_le (Nat.le_refl _) (by omega)) z⟩
  | succ n ih =>
    intro i e
    have hi : i < nL σ := by omega
    obtain ⟨_, e20, e21⟩ := c.2 i hi
    have nx := ih (i + 1) (by omega)
    have el : lnk σ a (i + 1) = lnk σ a i + (if decide (σ.1 110 i = a) || decide (σ.1 111 i = a) then 1 else 0) := rfl
    refine sgX4_with_4 _ _ _ (Nat.zero_le _) hS ⟨fun z => absurd z (by rw [c.1]; exact nI_ge hi (by omega)), fun _ => ⟨vin (by omega), ?_⟩⟩
    rw [nI_1, nI_1, nI_clamp (by omega), e20, e21]
    refine ⟨fun z => ?_, fun z => ⟨vin (by omega), fun z2 => ?_, fun z2 => ?_⟩⟩
    · rw [el, decide_eq_true z, Bool.true_or, if_pos rfl] at nx; exact nx
    · rw [el, decide_eq_true z2, Bool.or_true, if_pos rfl] at nx; exact nx
    · rw [el, decide_eq_false z, decide_eq_false z2] at nx; exact nx
theorem ok_with {F : Int32 → Hp → Prop} {a : Int32} (hd : 1 ≤ d) (hS : Std h.2.2) (V : VS σ) (c : CK σ h) (hq : F (nI (lnk σ a (nL σ))) h) : OKi d mX4_with [.ref 18, .int a] h F X :=
  enX4_with a hd hS (lp_with hS V c hq (nL σ) 0 (by omega))
/-- the links that are left when a deed goes -/
def dlS (σ : Hp) (a : Int32) : Nat → Hp × Nat
  | 0 => (σ, 0)
  | k + 1 => if (dlS σ a k).1.1 110 k = a ∨ (dlS σ a k).1.1 111 k = a then dlS σ a k else (hI (hI (hI (dlS σ a k).1 109 (dlS σ a k).2 ((dlS σ a k).1.1 109 k)) 110 (dlS σ a k).2 ((dlS σ a k).1.1 110 k)) 111 (dlS σ a k).2 ((dlS σ a k).1.1 111 k), (dlS σ a k).2 + 1)
def stLeft (σ : Hp) (a : Int32) : Hp := hI (dlS σ a (nL σ)).1 91 7 (nI (dlS σ a (nL σ)).2)
theorem dlS_le {a : Int32} : ∀ k, (dlS σ a k).2 ≤ k
  | 0 => Nat.le_refl _
  | k + 1 => by
    have := dlS_le (a := a) k
    rw [dlS]
    by_cases q : (dlS σ a k).1.1 110 k = a ∨ (dlS σ a k).1.1 111 k = a
    · rw [if_pos q]; omega
    · rw [if_neg q]; show (dlS σ a k).2 + 1 ≤ k + 1; omega
theorem dlS_fr {a : Int32} : ∀ k, Fr [109, 110, 111] [] σ (dlS σ a k).1
  | 0 => Fr.rf
  | k + 1 => by
    have := dlS_fr (a := a) k
    rw [dlS]
    by_cases q : (dlS σ a k).1.1 110 k = a ∨ (dlS σ a k).1.1 111 k = a
    · rw [if_pos q]; exact this
    · rw [if_neg q]; exact Fr.tr (Fr.tr (Fr.tr this Fr.pI) Fr.pI) Fr.pI
def DlInv (σ : Hp) (a : Int32) (g : Hp) (i : Nat) : Prop := ∀ k, k < nL σ → g.1 19 k = (dlS σ a i).1.1 109 k ∧ g.1 20 k = (dlS σ a i).1.1 110 k ∧ g.1 21 k = (dlS σ a i).1.1 111 k
theorem lp_dropWith {F : Hp → Prop} {a : Int32} (hS : Std h.2.2) (V : VS σ) (c : CK σ h) (hq : ∀ g, Fr [19, 20, 21] [(18, 0)] h g → CK (stLeft σ a) g → F g) : ∀ (n i : Nat) (g : Hp), i + n = nL σ → Fr [19, 20, 21] [] h g → DlInv σ a g i →
    E mX4_dropWith d 0 0 4 [(0, .ref 18), (1, .int a), (2, .int (nI (dlS σ a i).2)), (3, .int (nI i))] [] g (Qv F) X := by
  have hL := V.l.2
  intro n
  induction n with
  | zero =>
    intro i g e fr I
    have : i = nL σ := by omega
    subst this
    have e1 : g.1 18 0 = nI (nL σ) := by rw [fr.i 18 0, c.1]
    have hle := dlS_le (σ := σ) (a := a) (nL σ)
    have en : nL (stLeft σ a) = (dlS σ a (nL σ)).2 := by
      have : (stLeft σ a).1 91 7 = nI (dlS σ a (nL σ)).2 := hI_k
      rw [nL, this, nI_clamp (by omega)]
    refine sgX4_dropWith_4 _ _ _ (Nat.zero_le _) (fr.sd hS) ⟨fun _ => hq _ (Fr.tr fr.mono Fr.pI) ⟨?_, fun k hk => ?_⟩, fun z => absurd (by rw [e1]; exact nI_le (Nat.le_refl _) (by omega)) z⟩
    · rw [hI_k, en]
    · rw [en] at hk
      rw [hI_c (by decide), hI_c (by decide), hI_c (by decide), stLeft, hI_c (by decide), hI_c (by decide), hI_c (by decide)]
      exact I k (by omega)
  | succ n ih =>
    intro i g e fr I
    have hi : i < nL σ := by omega
    obtain ⟨e19, e20, e21⟩ := I i hi
    have hle := dlS_le (σ := σ) (a := a) i
    have e1 : g.1 18 0 = nI (nL σ) := by rw [fr.i 18 0, c.1]
    refine sgX4_dropWith_4 _ _ _ (Nat.zero_le _) (fr.sd hS) ⟨fun z => absurd z (by rw [e1]; exact nI_ge hi (by omega)), fun _ => ⟨vin (by omega), ?_⟩⟩
    have pos : ∀ (q : (dlS σ a i).1.1 110 i = a ∨ (dlS σ a i).1.1 111 i = a), E mX4_dropWith d 0 0 4 [(0, .ref 18), (1, .int a), (2, .int (nI (dlS σ a i).2)), (3, .int (nI (i + 1)))] [] g (Qv F) X := fun q => by
      have es : dlS σ a (i + 1) = dlS σ a i := by rw [dlS, if_pos q]
      have := ih (i + 1) g (by omega) fr (fun k hk => by rw [es]; exact I k hk)
      rw [es] at this
      exact this
    rw [nI_1, nI_1, nI_clamp (by omega), nI_clamp (by omega), e19, e20, e21]
    refine ⟨fun z => pos (Or.inl z), fun z => ⟨vin (by omega), fun z2 => pos (Or.inr z2), fun z2 => ⟨vin (by omega), vin (by omega), vin (by omega), vin (by omega), vin (by omega), vin (by omega), ?_⟩⟩⟩
    have es : dlS σ a (i + 1) = (hI (hI (hI (dlS σ a i).1 109 (dlS σ a i).2 ((dlS σ a i).1.1 109 i)) 110 (dlS σ a i).2 ((dlS σ a i).1.1 110 i)) 111 (dlS σ a i).2 ((dlS σ a i).1.1 111 i), (dlS σ a i).2 + 1) := by
      rw [dlS, if_neg (fun q => q.elim z z2)]
    have e2 : (dlS σ a (i + 1)).2 = (dlS σ a i).2 + 1 := by rw [es]
    rw [← e2]
    refine ih (i + 1) _ (by omega) (Fr.tr (Fr.tr (Fr.tr fr Fr.pI) Fr.pI) Fr.pI) fun k hk => ?_
    rw [es]
    obtain ⟨k19, k20, k21⟩ := I k hk
    refine ⟨?_, ?_, ?_⟩
    · rw [tri1 (by decide) (by decide), tri1 (by decide) (by decide), k19]
    · rw [tri2 (by decide) (by decide), tri2 (by decide) (by decide), k20]
    · rw [tri3 (by decide) (by decide), tri3 (by decide) (by decide), k21]
theorem ok_dropWith {F : Hp → Prop} {a : Int32} (hd : 1 ≤ d) (hS : Std h.2.2) (V : VS σ) (c : CK σ h) (hq : ∀ g, Fr [19, 20, 21] [(18, 0)] h g → CK (stLeft σ a) g → F g) : OKv d mX4_dropWith [.ref 18, .int a] h F X :=
  enX4_dropWith a hd hS (lp_dropWith hS V c hq (nL σ) 0 h (by omega) Fr.rf fun k hk => c.2 k hk)
end LAND
