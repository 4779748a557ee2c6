/-! stopped -/
section STOP
variable {σ h : Hp} {d : Nat} {X : String → Hp → Prop} {late : Bool} {a : Int32}
def lng (σ : Hp) : Nat → Int32
  | 0 => 0
  | k + 1 => maxI (lng σ k) (hrs σ (gd (sL σ) k))
def SLo (σ : Hp) (L : List (Nat × Nat)) : Prop := ∀ i, i < L.length → frN σ (gd L i).1 ≤ frN σ (gd L i).2
theorem SLo.app {L M : List (Nat × Nat)} (a : SLo σ L) (b : SLo σ M) : SLo σ (L ++ M) := fun i hi => by
  rw [List.length_append] at hi
  by_cases h : i < L.length
  · rw [gd_lo h]; exact a i h
  · have e : gd (L ++ M) i = gd M (i - L.length) := by
      simp only [gd, List.getD_eq_getElem?_getD, List.getElem?_append_right (Nat.not_lt.mp h)]
    rw [e]; exact b _ (by omega)
theorem hlk_o (V : VS σ) {j : Nat} : ∀ k, k < nh σ j ∨ k = 0 → SLo σ (hlk σ j k)
  | 0, _ => fun i hi => absurd hi (Nat.not_lt_zero _)
  | k + 1, h => by
    refine (hlk_o V k (by omega)).app fun i hi => ?_
    have : i = 0 := by simp at hi; omega
    subst this
    have s0 := sq_in V (j := j) (p := k) (by omega)
    have s1 := sq_in V (j := j) (p := k + 1) (by omega)
    refine Classical.byContradiction fun y => ?_
    have y : ¬ frN σ (sq σ j k) ≤ frN σ (sq σ j (k + 1)) := y
    have := rnk_lt (σ := σ) (Q := Qh σ j) s1.1 s1.2.1 (b := sq σ j k) (Or.inl (by omega))
    rw [s0.2.2, s1.2.2] at this
    omega
theorem stL_o (V : VS σ) : ∀ j, SLo σ (stL σ j)
  | 0 => fun i hi => absurd hi (Nat.not_lt_zero _)
  | j + 1 => (stL_o V j).app (hlk_o V _ (by omega))
theorem hrs_n (V : VS σ) {i : Nat} (hi : i < (sL σ).length) : ∃ n, n ≤ 99999 ∧ hrs σ (gd (sL σ) i) = nI n := by
  have b := sL_b V hi
  have o : frN σ (gd (sL σ) i).1 ≤ frN σ (gd (sL σ) i).2 := stL_o V (nH σ) i hi
  have f1 := frN_n V b.1
  have f2 := frN_n V b.2
  exact ⟨frN σ (gd (sL σ) i).2 - frN σ (gd (sL σ) i).1, by omega, by rw [hrs, f1.1, f2.1, pk_sub o]⟩
theorem ok_longest {F : Int32 → Hp → Prop} (hd : 2 ≤ d) (hS : Std h.2.2) (V : VS σ) (c : CS σ h) (S : SLc (sL σ) h) (hq : F (lng σ (sL σ).length) h) : OKi d mX9_longest [.ref 57] h F X := by
  have hL := sL_len V
  have go : ∀ n i : Nat, i + n = (sL σ).length → E mX9_longest 1 0 0 4 [(0, .ref 57), (1, .int (lng σ i)), (2, .int (nI i))] [] h (Qi F) X := by
    intro n
    induction n with
    | zero =>
      intro i e
      have : i = (sL σ).length := by omega
      subst this
      exact sgX9_longest_4 _ _ (Nat.le_refl _) hS ⟨fun _ => hq, fun z => absurd (by rw [S.1]; exact Int32.le_refl _) z⟩
    | succ n ih =>
      intro i e
      have hi : i < (sL σ).length := by omega
      refine sgX9_longest_4 _ _ (Nat.le_refl _) hS ⟨fun z => absurd z (by rw [S.1]; exact nI_ge hi (by omega)), fun _ => ok_hoursOf (by omega) hS V c S hi ?_⟩
      rw [nI_1]
      exact ih (i + 1) (by omega)
  exact enX9_longest hd hS (go _ 0 (Nat.zero_add _))
def vStopped (σ : Hp) (late : Bool) (a : Nat) : Bool := !decide ((sL σ).length = 0) && !decide (σ.1 91 1 - ltf σ (fun k => stn σ k && decide ((grpS σ (wS σ late)).1 k = (grpS σ (wS σ late)).1 a)) (nD σ) ≤ lng σ (sL σ).length)
theorem GC.fr {q : Hp} {s : JG} {L : List Nat} {fs : List (Nat × Nat)} (G : GC σ s h) (f : Fr L fs h q) (h1 : ∀ k, inW L fs 53 k = false ∧ inW L fs 54 k = false ∧ inW L fs 55 k = false ∧ inW L fs 56 k = false := by exact fun _ => ⟨rfl, rfl, rfl, rfl⟩) : GC σ s q := by
  obtain ⟨g1, g2, g3, g4, g5⟩ := G
  refine ⟨by rw [f.i 53 0 (h1 0).1]; exact g1, fun k => by rw [f.l 53 1 (h1 1).1]; exact g2 k, fun a ha k => by rw [f.l 54 a (h1 a).2.1]; exact g3 a ha k, fun a ha k => by rw [f.l 55 a (h1 a).2.2.1]; exact g4 a ha k, fun a b ha hb' hab => by rw [f.i 56 _ (h1 _).2.2.2]; exact g5 a b ha hb' hab⟩
theorem ok_stoppedC {F : Int32 → Hp → Prop} (hd : 8 ≤ d) (hS : Std h.2.2) (V : VS σ) (c : CS σ h) (hq : CR h (cdUn σ a) (bI (vStopped σ late a.toNatClampNeg)) (t2 nse ise) F X) : OKi d mX11_stopped [.ref 0, .int a, .int (bI late)] h F X := by
  have hD := V.d.2
  have hL := sL_len V
  refine enX11_stopped _ _ hd hS (ok_needDeed (by omega) hS V c.1 (fun h1 => ?_) fun h1 => ?_)
  · obtain ⟨i, ali, em, hi⟩ := isD_t V h1
    subst em
    refine ok_needUndoubted (by omega) hS V c.1 hi (fun h2 => ?_) fun h2 => ?_
    · have e : cdUn σ (nI i) = 0 := by rw [cdUn, h1, nI_clamp (by omega), h2]; rfl
      rw [e] at hq
      have st := un_stn ali h2
      have J := grpS_J V (wS σ late)
      have ji := J.1 i st
      have lh := (stn_al ji.1).2
      refine ok_join (by omega) hS V c fun q1 k1 G1 => ok_gather (by omega) k1.1 V (c.kc k1) fun q2 f2 S2 => ?_
      have S2 : SLc (sL σ) q2 := S2
      have k2 := k1.tr (f2.kc k1.1)
      have G2 := G1.fr f2
      have hh : hdJ σ (grpS σ (wS σ late)) ((grpS σ (wS σ late)).1 i) = true := by rw [hdJ, ji.1, ji.2.1]; simp
      refine ok_headOf (by omega) k2.1 V J G2 st ⟨vin (by omega), ?_⟩
      rw [nI_clamp (by omega)]
      refine ok_latestFrom (p := fun k => stn σ k && decide ((grpS σ (wS σ late)).1 k = (grpS σ (wS σ late)).1 i)) (by omega) k2.1 V (c.kc k2).1 (fun k => G2.2.2.1 _ hh k) ?_
      have fin := hq.1 rfl q2 k2
      rw [nI_clamp (by omega), vStopped] at fin
      rw [S2.1, (c.kc k2).2.2.1.1]
      refine ⟨fun z => ?_, fun z => ok_longest (by omega) k2.1 V (c.kc k2) S2 ⟨fun z2 => ?_, fun z2 => ?_⟩⟩
      · have : (sL σ).length = 0 := by
          have := (nI_leI (b := 0) (by omega) (by omega)).mp z
          omega
        rw [decide_eq_true this] at fin; exact fin
      · rw [decide_eq_true z2, Bool.not_true, Bool.and_false] at fin; exact fin
      · have : ¬ (sL σ).length = 0 := fun y => z (by rw [y]; decide)
        rw [decide_eq_false z2, decide_eq_false this] at fin; exact fin
    · have e : cdUn σ (nI i) = 2 := by rw [cdUn, h1, nI_clamp (by omega), h2]; rfl
      rw [e] at hq
      exact hq.2 (by decide) h (Kp.rf hS)
  · have e : cdUn σ a = 1 := by rw [cdUn, h1]; rfl
    rw [e] at hq
    exact hq.2 (by decide) h (Kp.rf hS)
theorem ok_stoppedM {F : Int32 → Hp → Prop} (hd : 9 ≤ d) (hS : Std h.2.2) (V : VS σ) (mc : MC σ h) (ak : h.1 91 36 = -1) (hq : MR h (cdUn σ a) (bI (vStopped σ late a.toNatClampNeg)) F) : OKi d mX12_stopped [.ref 91, .int a, .int (bI late)] h F X := by
  have hD := V.d.2
  have hL := sL_len V
  have no : ∀ n : Nat, n ≠ 0 → cdUn σ a = n → F 0 (hI h 91 0 (nI n)) := fun n h1 e => hq _ 0 (k0 (Kp.rf hS)) (by rw [hI_k, e]) fun z => absurd (e.symm.trans z) h1
  refine enX12_stopped _ _ hd hS (ok_isDeedM (by omega) hS V mc ⟨fun z => ⟨fun y => absurd y (by decide), fun _ => no 1 (by decide) (by rw [cdUn, bI_0.mp z]; rfl)⟩, fun z => ?_⟩)
  have h1 := bI_n0.mp z
  obtain ⟨i, ali, em, hi⟩ := isD_t V h1
  subst em
  rw [nI_clamp (by omega), mc.i 104 i]
  refine ⟨vin (by omega), fun z2 => ⟨fun _ => ?_, fun y => absurd (Int32.le_refl _) y⟩, fun z2 => ⟨fun y => absurd y (by decide), fun _ => no 2 (by decide) ?_⟩⟩
  · have h2 : dbt σ i = false := by rw [dbt, decide_eq_true z2]; rfl
    have e : cdUn σ (nI i) = 0 := by rw [cdUn, h1, nI_clamp (by omega), h2]; rfl
    rw [e] at hq
    have st := un_stn ali h2
    have kk : Kp scm h (hI h 91 0 0) := k0 (Kp.rf hS)
    refine ok_joins (by omega) kk.1 V (mc.km kk) (by rw [hI_j (by decide)]; exact ak) fun q1 k1 e0 G1 => ok_laySteps (by omega) k1.1 V ((mc.km kk).km k1) fun q2 f2 S2 => ?_
    have S2 : SLm (sL σ) q2 := S2
    have k2 := (kk.tr k1).tr (f2.km k1.1)
    have m2 := mc.km k2
    have e02 : q2.1 91 0 = 0 := by rw [f2.i 91 0, e0, hI_k]
    have G2 : ∀ k, k < nD σ → q2.1 125 k = gJ σ (grpS σ (wS σ late)) k := fun k hk => by rw [f2.i 125]; exact G1.1 k hk
    have fin := hq q2 (bI (vStopped σ late i)) k2 e02 fun _ => by rw [nI_clamp (by omega)]
    have same : ∀ k, gJ σ (grpS σ (wS σ late)) k = gJ σ (grpS σ (wS σ late)) i ↔ (stn σ k && decide ((grpS σ (wS σ late)).1 k = (grpS σ (wS σ late)).1 i)) = true := fun k => by
      have J := grpS_J V (wS σ late)
      rw [gJ, gJ, st, if_pos rfl]
      have li := (stn_al (J.1 i st).1).2
      cases es : stn σ k
      · rw [if_neg (by decide)]
        exact ⟨fun y => absurd y.symm (nI_neg (by omega)), fun y => by cases y⟩
      · have lk := (stn_al (J.1 k es).1).2
        rw [if_pos rfl, nI_eq (by omega) (by omega), Bool.true_and, decide_eq_true_eq]
    have l2 : ∀ n j : Nat, j + n = nD σ → E mX12_stopped 8 0 0 104 [(0, .ref 91), (1, .int (nI i)), (3, .int (if (sL σ).length = 0 then -1 else lng σ (sL σ).length)), (4, .int (ltf σ (fun k => stn σ k && decide ((grpS σ (wS σ late)).1 k = (grpS σ (wS σ late)).1 i)) j)), (5, .int (nI j))] [] q2 (Qi F) X := by
      intro n
      induction n with
      | zero =>
        intro j ej
        have : j = nD σ := by omega
        subst this
        refine sgX12_stopped_104 _ _ _ _ (Nat.le_refl _) k2.1 ⟨fun _ => ?_, fun y => absurd (by rw [m2.i 91 6, V.d.1]; exact Int32.le_refl _) y⟩
        rw [S2.1, m2.i 91 1]
        rw [vStopped] at fin
        refine ⟨fun y => ?_, fun y => ?_⟩
        · have : (sL σ).length = 0 := by
            have := (nI_leI (b := 0) (by omega) (by omega)).mp y
            omega
          rw [decide_eq_true this] at fin; exact fin
        · have : ¬ (sL σ).length = 0 := fun w => y (by rw [w]; decide)
          rw [if_neg this]
          rw [decide_eq_false this] at fin
          refine ⟨fun y2 => ?_, fun y2 => ?_⟩
          · rw [decide_eq_true y2] at fin; exact fin
          · rw [decide_eq_false y2] at fin; exact fin
      | succ n ih =>
        intro j ej
        have hj : j < nD σ := by omega
        have nx := ih (j + 1) (by omega)
        rw [ltf] at nx
        refine sgX12_stopped_104 _ _ _ _ (Nat.le_refl _) k2.1 ⟨fun y => absurd y (by rw [m2.i 91 6, V.d.1]; exact nI_ge hj (by omega)), fun _ => ?_⟩
        rw [nI_clamp (by omega), nI_clamp (by omega), G2 j hj, G2 i hi, m2.i 99, nI_1]
        refine ⟨vin (by omega), vin (by omega), fun y => ⟨vin (by omega), ?_⟩, fun y => ?_⟩
        · have p := (same j).mp y
          rw [if_pos p] at nx; exact nx
        · have p : ¬ (stn σ j && decide ((grpS σ (wS σ late)).1 j = (grpS σ (wS σ late)).1 i)) = true := fun w => y ((same j).mpr w)
          rw [if_neg p] at nx; exact nx
    have l1 : ∀ n j : Nat, j + n = (sL σ).length → E mX12_stopped 8 0 0 53 [(0, .ref 91), (1, .int (nI i)), (3, .int (if j = 0 then -1 else lng σ j)), (4, .int (nI j))] [] q2 (Qi F) X := by
      intro n
      induction n with
      | zero =>
        intro j ej
        have : j = (sL σ).length := by omega
        subst this
        refine sgX12_stopped_53 _ _ _ (Nat.le_refl _) k2.1 ⟨fun _ => l2 _ 0 (Nat.zero_add _), fun y => absurd (by rw [S2.1]; exact Int32.le_refl _) y⟩
      | succ n ih =>
        intro j ej
        have hj : j < (sL σ).length := by omega
        have bj := sL_b V hj
        have sj := S2.2 j hj
        have nx := ih (j + 1) (by omega)
        rw [if_neg (by omega), lng] at nx
        refine sgX12_stopped_53 _ _ _ (Nat.le_refl _) k2.1 ⟨fun y => absurd y (by rw [S2.1]; exact nI_ge hj (by omega)), fun _ => ?_⟩
        rw [nI_clamp (by omega), sj.1, sj.2, nI_clamp (by omega), nI_clamp (by omega), m2.i 99, m2.i 99, nI_1]
        refine ⟨vin (by omega), vin (by omega), vin (by omega), vin (by omega), ?_⟩
        obtain ⟨n1, l1, e1⟩ := hrs_n V hj
        have e1' : σ.1 99 (gd (sL σ) j).2 - σ.1 99 (gd (sL σ) j).1 = nI n1 := e1
        rw [e1] at nx
        rw [e1']
        by_cases y : j = 0
        · subst y
          rw [if_pos rfl, if_pos (by rw [fa_lt, nI_toInt (by omega)]; have : (-1 : Int32).toInt = -1 := by decide
                                     omega)]
          rw [lng, maxI] at nx
          by_cases y2 : (0 : Int32) < nI n1
          · rw [if_pos y2] at nx; exact nx
          · rw [if_neg y2] at nx
            have : n1 = 0 := by
              refine Classical.byContradiction fun w => y2 (nI_lt (a := 0) (by omega) (by omega))
            subst this; exact nx
        · rw [if_neg y]; exact nx
    exact l1 _ 0 (Nat.zero_add _)
  · have h2 : dbt σ i = true := by rw [dbt, decide_eq_false z2]; rfl
    rw [cdUn, h1, nI_clamp (by omega), h2]; rfl
end STOP
