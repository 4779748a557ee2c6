/-! Deeds.add -/
section ADDP
variable {σ h : Hp} {d : Nat} {X : String → Hp → Prop} {f t : Int32} {q : Nat}
def AddInv (σ : Hp) (q : Nat) (f t : Int32) (h g : Hp) (i : Nat) : Prop :=
  Fr [9, 10, 11, 12, 13, 14, 15] [] h g ∧ (g.1 9 (nD σ) = nI q ∧ g.1 10 (nD σ) = f ∧ g.1 11 (nD σ) = t ∧ g.1 12 (nD σ) = σ.1 91 1 ∧ g.1 13 (nD σ) = -1 ∧ g.1 14 (nD σ) = -1) ∧
  (∀ c k, c = 9 ∨ c = 10 ∨ c = 11 ∨ c = 12 ∨ c = 13 ∨ c = 14 → k ≠ nD σ → g.1 c k = h.1 c k) ∧
  (∀ k, k < 60 → ∀ b, hb (g.2.1 15 k) b = if k = nD σ then decide (b < i) && apt (stAdd σ (nI q) f t) (nD σ) b else hb (h.2.1 15 k) b || (decide (k < i) && decide (b = nD σ) && apt (stAdd σ (nI q) f t) (nD σ) k))
theorem CD_add (V : VS σ) (c : CD σ h) (hq : q < nP σ) (h60 : nD σ < 60) {g : Hp} (I : AddInv σ q f t h g (nD σ)) : CD (stAdd σ (nI q) f t) (hI g 8 1 (nI (nD σ + 1))) := by
  obtain ⟨fr, ⟨n9, n10, n11, n12, n13, n14⟩, old, ap⟩ := I
  have eD : nD (stAdd σ (nI q) f t) = nD σ + 1 := stAdd_n h60
  have F98 : Fr [98, 99, 100, 101, 102, 103] [(91, 6)] σ (stAdd σ (nI q) f t) := stAdd_fr
  have e105 : ∀ k, (stAdd σ (nI q) f t).1 105 k = σ.1 105 k := fun k => F98.i 105 k
  have eA : ∀ k, al (stAdd σ (nI q) f t) k = (al σ k || decide (k = nD σ)) := fun k => by
    rw [al, al, eD, e105]
    by_cases hk : k = nD σ
    · subst hk
      rw [(V.fr (Nat.le_refl _) h60).2.1]; simp
    · have : decide (k < nD σ + 1) = decide (k < nD σ) := decide_eq_decide.mpr (by omega)
      rw [this, decide_eq_false hk, Bool.or_false]
  have alt : ∀ k, k ≠ nD σ → al (stAdd σ (nI q) f t) k = al σ k := fun k hk => by rw [eA, decide_eq_false hk, Bool.or_false]
  have aln : al σ (nD σ) = false := by rw [al]; simp
  have sn : sol (stAdd σ (nI q) f t) (nD σ) = false := by rw [sol, stAdd_102, if_pos rfl]; rfl
  have so : ∀ k, k ≠ nD σ → sol (stAdd σ (nI q) f t) k = sol σ k := fun k hk => sol_cg (by rw [stAdd_102, if_neg hk])
  refine ⟨?_, fun k hk => ?_, fun k hk => ?_, fun j hj b => ?_, fun b => ?_, fun b => ?_, fun b => ?_, fun a ha b => ?_, fun a ha b => ?_, ?_, ?_⟩
  · rw [hI_k, eD]
  · rw [hI_c (by decide), hI_c (by decide), hI_c (by decide), hI_c (by decide), stAdd_98, stAdd_99, stAdd_100, stAdd_101]
    by_cases hkn : k = nD σ
    · subst hkn
      rw [if_pos rfl, if_pos rfl, if_pos rfl, if_pos rfl]
      exact ⟨n9, n10, n11, n12⟩
    · rw [if_neg hkn, if_neg hkn, if_neg hkn, if_neg hkn, old 9 k (by omega) hkn, old 10 k (by omega) hkn, old 11 k (by omega) hkn, old 12 k (by omega) hkn]
      exact c.de (by omega)
  · rw [hI_c (by decide), hI_c (by decide), stAdd_102, stAdd_103]
    by_cases hkn : k = nD σ
    · subst hkn
      rw [if_pos rfl, if_pos rfl, n13, n14]
      exact ⟨by split <;> rfl, by split <;> rfl⟩
    · rw [if_neg hkn, if_neg hkn, alt k hkn, old 13 k (by omega) hkn, old 14 k (by omega) hkn]
      exact c.hand (by omega)
  · rw [hI_l, fr.l 17 j]
    by_cases hbn : b = nD σ
    · subst hbn
      rw [c.of hj, aln, sn]; simp
    · rw [alt b hbn, so b hbn, isof_cg (σ := σ) (by rw [stAdd_102, if_neg hbn]) (by rw [stAdd_103, if_neg hbn])]
      exact c.of hj b
  · rw [hI_l, fr.l 8 11]
    by_cases hbn : b = nD σ
    · subst hbn
      rw [c.sol, aln, sn]; simp
    · rw [alt b hbn, so b hbn]; exact c.sol b
  · rw [hI_l, fr.l 8 12, c.dbt, eD, dbt_cg (σ := σ) (F98.i 104 b)]
    by_cases hbn : b = nD σ
    · subst hbn
      rw [dbt, (V.fr (Nat.le_refl _) h60).1]; simp
    · have : decide (b < nD σ + 1) = decide (b < nD σ) := decide_eq_decide.mpr (by omega)
      rw [this]
  · rw [hI_l, fr.l 8 13, c.gone, eD, eA]
    by_cases hbn : b = nD σ
    · subst hbn; simp
    · have : decide (b < nD σ + 1) = decide (b < nD σ) := decide_eq_decide.mpr (by omega)
      rw [this, decide_eq_false hbn, Bool.or_false]
  · rw [hI_l, ap a ha, eD]
    by_cases han : a = nD σ
    · subst han
      rw [if_pos rfl, decide_eq_true (Nat.lt_succ_self _), Bool.true_and]
      by_cases hbn : b < nD σ
      · have h1 : b < nD σ + 1 := by omega
        have h2 : ¬ nD σ = b := by omega
        rw [decide_eq_true hbn, decide_eq_true h1, decide_eq_false h2]; rfl
      · by_cases hbe : nD σ = b
        · rw [decide_eq_true hbe, decide_eq_false hbn]; simp
        · have h1 : ¬ b < nD σ + 1 := by omega
          rw [decide_eq_false hbn, decide_eq_false h1]; rfl
    · rw [if_neg han, c.apart ha]
      by_cases hal : a < nD σ
      · have h1 : a < nD σ + 1 := by omega
        rw [decide_eq_true hal, decide_eq_true h1]
        by_cases hbn : b = nD σ
        · subst hbn
          rw [decide_eq_true (Nat.lt_succ_self _), decide_eq_false han, decide_eq_false (Nat.lt_irrefl _), stAdd_sym V hq h60 (Nat.le_of_lt hal) (Nat.le_refl _)]
          simp
        · have e1 : decide (b < nD σ + 1) = decide (b < nD σ) := decide_eq_decide.mpr (by omega)
          rw [e1, decide_eq_false hbn, stAdd_apt han hbn]
          simp
      · have h1 : ¬ a < nD σ + 1 := by omega
        rw [decide_eq_false hal, decide_eq_false h1]; rfl
  · rw [hI_l, fr.l 16 a, bar_cg (σ := σ) (F98.i 106 _)]; exact c.bar ha b
  · rw [hI_j (by decide), fr.i 8 14, F98.i 91 29]; exact c.win.1
  · rw [hI_j (by decide), fr.i 8 15, F98.i 91 30]; exact c.win.2
theorem lp_add {F : Int32 → Hp → Prop} (hd : 3 ≤ d) (hS : Std h.2.2) (V : VS σ) (c : CD σ h) (cp : CP σ h) (hq : q < nP σ) (h60 : nD σ < 60) (hF : ∀ g, Fr [9, 10, 11, 12, 13, 14, 15] [(8, 1)] h g → CD (stAdd σ (nI q) f t) g → F (nI (nD σ)) g) : ∀ (n i : Nat) (g : Hp), i + n = nD σ → AddInv σ q f t h g i →
    E mX0_add d 0 0 80 [(0, .ref 8), (4, .int (nI i))] [] g (Qi F) X := by
  intro n
  induction n with
  | zero =>
    intro i g e I
    have hi : i = nD σ := by omega
    subst hi
    have e1 : g.1 8 1 = nI (nD σ) := by rw [I.1.i 8 1, c.n]
    refine sgX0_add_80 _ hd (I.1.sd hS) ⟨fun _ => ?_, fun z => absurd (by rw [e1]; exact nI_le (Nat.le_refl _) (by omega)) z⟩
    rw [e1, nI_1]
    exact hF _ (Fr.tr I.1.mono Fr.pI) (CD_add V c hq h60 I)
  | succ n ih =>
    intro i g e I
    have hi : i < nD σ := by omega
    have hSg := I.1.sd hS
    have e1 : g.1 8 1 = nI (nD σ) := by rw [I.1.i 8 1, c.n]
    have cpg : CP (stAdd σ (nI q) f t) g := by
      refine CP_cg ?_ stAdd_fr
      refine ⟨by rw [I.1.i 1 1]; exact cp.1, fun p hp => ?_⟩
      rw [I.1.i 2 p, I.1.i 3 p, I.1.i 4 p]
      exact cp.2 p hp
    have eP : nP (stAdd σ (nI q) f t) = nP σ := by rw [nP, nP, stAdd_fr.i 91 2]
    obtain ⟨fr, ⟨n9, n10, n11, n12, n13, n14⟩, old, ap⟩ := I
    have pn := stAdd_plc (f := f) (t := t) V hq h60 (Nat.le_refl (nD σ))
    have pi := stAdd_plc (f := f) (t := t) V hq h60 (Nat.le_of_lt hi)
    have hin : i ≠ nD σ := by omega
    obtain ⟨o9, o10, o11, _⟩ := c.de hi
    refine sgX0_add_80 _ hd hSg ⟨fun z => absurd z (by rw [e1]; exact nI_ge hi (by omega)), fun _ => ?_⟩
    rw [e1, nI_1]
    refine ok_areApart (σ := stAdd σ (nI q) f t) hd hSg cpg (by rw [eP]; exact V.p.2) (by omega) (by omega) ⟨by rw [n9, stAdd_98, if_pos rfl], by rw [n10, stAdd_99, if_pos rfl], by rw [n11, stAdd_100, if_pos rfl]⟩
      ⟨by rw [old 9 i (by omega) hin, o9, stAdd_98, if_neg hin], by rw [old 10 i (by omega) hin, o10, stAdd_99, if_neg hin], by rw [old 11 i (by omega) hin, o11, stAdd_100, if_neg hin]⟩ (by rw [eP]; exact pn) (by rw [eP]; exact pi) ⟨fun z => ?_, fun z => ?_⟩
    · have hz := bI_0.mp z
      refine ih (i + 1) g (by omega) ⟨fr, ⟨n9, n10, n11, n12, n13, n14⟩, old, fun k hk b => ?_⟩
      rw [ap k hk]
      by_cases hkn : k = nD σ
      · rw [if_pos hkn, if_pos hkn]
        by_cases hbi : b = i
        · subst hbi; rw [hz]; simp
        · have : decide (b < i + 1) = decide (b < i) := decide_eq_decide.mpr (by omega)
          rw [this]
      · rw [if_neg hkn, if_neg hkn]
        by_cases hki : k = i
        · subst hki; rw [hz]; simp
        · have : decide (k < i + 1) = decide (k < i) := decide_eq_decide.mpr (by omega)
          rw [this]
    · have hz := bI_n0.mp z
      have v1 : vp_in (g.1 8 1) 60 := by rw [e1]; exact vin (by omega)
      refine ⟨v1, ok_only (by omega) hSg ⟨v1, vin (by omega), ok_only (by omega) hSg ⟨vin (by omega), ?_⟩⟩⟩
      rw [e1, nI_clamp (by omega), nI_clamp (by omega)]
      refine ih (i + 1) _ (by omega) ⟨Fr.tr (Fr.tr fr Fr.pL) Fr.pL, ⟨n9, n10, n11, n12, n13, n14⟩, old, fun k hk b => ?_⟩
      by_cases hkn : k = nD σ
      · rw [hkn, hL_j (Ne.symm hin), hL_k, hb_put (by omega), ap _ (by omega), if_pos rfl, if_pos rfl]
        by_cases hbi : b = i
        · subst hbi; rw [hz]; simp
        · have : decide (b < i + 1) = decide (b < i) := decide_eq_decide.mpr (by omega)
          rw [this, decide_eq_false hbi, Bool.or_false]
      · rw [if_neg hkn]
        by_cases hki : k = i
        · subst hki
          rw [hL_k, hb_put (by omega), hL_j hkn, ap _ (by omega), if_neg hkn, hz]
          simp
        · have : decide (k < i + 1) = decide (k < i) := decide_eq_decide.mpr (by omega)
          rw [hL_j hki, hL_j hkn, ap _ hk, if_neg hkn, this]
theorem ok_add {F : Int32 → Hp → Prop} (hd : 4 ≤ d) (hS : Std h.2.2) (V : VS σ) (c : CD σ h) (cp : CP σ h) (hnow : h.1 1 0 = σ.1 91 1) (hq : q < nP σ)
    (h0 : nD σ = 60 → F (-1) h) (hF : nD σ < 60 → ∀ g, Fr [9, 10, 11, 12, 13, 14, 15] [(8, 1)] h g → CD (stAdd σ (nI q) f t) g → F (nI (nD σ)) g) : OKi d mX0_add [.ref 8, .int (nI q), .int f, .int t] h F X := by
  have hD := V.d.2
  refine enX0_add (nI q) f t hd hS ⟨fun z => ?_, fun z => h0 ?_⟩
  · rw [c.n] at z
    have h60 : nD σ < 60 := (nI_ltI (b := 60) (by omega) (by omega)).mp z
    rw [c.n, nI_clamp (by omega), hnow]
    refine ⟨vin h60, vin h60, vin h60, vin h60, vin h60, vin h60, lp_add (Nat.le_refl _) hS V c cp hq h60 (hF h60) (nD σ) 0 _ (by omega) ⟨Fr.tr (Fr.tr (Fr.tr (Fr.tr (Fr.tr (Fr.tr Fr.rf Fr.pI) Fr.pI) Fr.pI) Fr.pI) Fr.pI) Fr.pI, ⟨?_, ?_, ?_, ?_, ?_, ?_⟩, fun k j hk hj => ?_, fun k hk b => ?_⟩⟩
    · rw [hI_c (by decide), hI_c (by decide), hI_c (by decide), hI_c (by decide), hI_c (by decide), hI_k]
    · rw [hI_c (by decide), hI_c (by decide), hI_c (by decide), hI_c (by decide), hI_k]
    · rw [hI_c (by decide), hI_c (by decide), hI_c (by decide), hI_k]
    · rw [hI_c (by decide), hI_c (by decide), hI_k]
    · rw [hI_c (by decide), hI_k]
    · rw [hI_k]
    · have hj' : ∀ (g : Hp) (c : Nat) (v : Int32), (hI g c (nD σ) v).1 k j = g.1 k j := fun g c v => by
        by_cases hc : k = c
        · subst hc; exact hI_j hj
        · exact hI_c hc
      rw [hj', hj', hj', hj', hj', hj']
    · rw [hI_l, hI_l, hI_l, hI_l, hI_l, hI_l]
      by_cases hkn : k = nD σ
      · rw [if_pos hkn, c.apart hk, hkn]; simp
      · rw [if_neg hkn]; simp
  · rw [c.n] at z
    have := mt (nI_lt (a := nD σ) (b := 60) · (by omega)) z
    omega
end ADDP
