/-! steps by the reference -/
section STEPSM
variable {σ h : Hp} {d : Nat} {X : String → Hp → Prop}
/-- the least of the deeds that may come -/
def Lst (σ : Hp) (C : Nat → Bool) (i : Nat) (f : Int32) : Prop := (f = -1 ∧ ∀ e, e < i → C e = false) ∨ ∃ b, b < i ∧ f = nI b ∧ C b = true ∧ ∀ e, e < i → C e = true → e = b ∨ ltD σ b e
theorem lp_nextOf {F : Int32 → Hp → Prop} {j : Nat} {y : Int32} {C : Nat → Bool} (hd : 3 ≤ d) (hS : Std h.2.2) (V : VS σ) (m : MC σ h) (hy : (y = -1 ∧ ∀ k, k < nD σ → C k = Qh σ j k) ∨ ∃ e, e < nD σ ∧ y = nI e ∧ ∀ k, k < nD σ → C k = (Qh σ j k && decide (ltD σ e k)))
    (hq : ∀ f, Lst σ C (nD σ) f → F f h) : ∀ (n i : Nat) (f : Int32), i + n = nD σ → Lst σ C i f → E mX12_nextOf d 0 0 5 [(0, .ref 91), (1, .int (nI j)), (2, .int y), (3, .int f), (4, .int (nI i))] [] h (Qi F) X := by
  have hD := V.d.2
  intro n
  induction n with
  | zero =>
    intro i f e L
    have : i = nD σ := by omega
    subst this
    exact sgX12_nextOf_5 _ _ _ _ hd hS ⟨fun _ => hq f L, fun z => absurd (by rw [m.i 91 6, V.d.1]; exact Int32.le_refl _) z⟩
  | succ n ih =>
    intro i f e L
    have hi : i < nD σ := by omega
    have fi := frN_n V hi
    have skip : C i = false → E mX12_nextOf d 0 0 103 [(0, .ref 91), (1, .int (nI j)), (2, .int y), (3, .int f), (4, .int (nI i))] [] h (Qi F) X := fun hz => by
      refine sgX12_nextOf_103 _ _ _ _ hd hS ?_
      rw [nI_1]
      refine ih (i + 1) f (by omega) ?_
      obtain ⟨e1, e2⟩ | ⟨b, b1, b2, b3, b4⟩ := L
      · refine Or.inl ⟨e1, fun k hk => ?_⟩
        by_cases q : k = i
        · rw [q]; exact hz
        · exact e2 k (by omega)
      · refine Or.inr ⟨b, by omega, b2, b3, fun k hk hc => ?_⟩
        by_cases q : k = i
        · rw [q, hz] at hc; cases hc
        · exact b4 k (by omega) hc
    have c79 : C i = true → E mX12_nextOf d 0 0 79 [(0, .ref 91), (1, .int (nI j)), (2, .int y), (3, .int f), (4, .int (nI i))] [] h (Qi F) X := fun hz => by
      have take : (∀ k, k < i → C k = true → ltD σ i k) → E mX12_nextOf d 0 0 100 [(0, .ref 91), (1, .int (nI j)), (2, .int y), (4, .int (nI i))] [] h (Qi F) X := fun hl => by
        refine sgX12_nextOf_100 _ _ _ hd hS (sgX12_nextOf_103 _ _ _ _ hd hS ?_)
        rw [nI_1]
        refine ih (i + 1) (nI i) (by omega) (Or.inr ⟨i, by omega, rfl, hz, fun k hk hc => ?_⟩)
        by_cases q : k = i
        · exact Or.inl q
        · exact Or.inr (hl k (by omega) hc)
      refine sgX12_nextOf_79 _ _ _ _ hd hS ⟨fun z => take ?_, fun z => ?_⟩
      · obtain ⟨_, e2⟩ | ⟨b, b1, b2, _, _⟩ := L
        · exact fun k hk hc => by rw [e2 k hk] at hc; cases hc
        · rw [b2] at z
          exact absurd z (nI_neg (by omega))
      · obtain ⟨e1, _⟩ | ⟨b, b1, b2, b3, b4⟩ := L
        · exact absurd e1 z
        · have fb := frN_n V (show b < nD σ by omega)
          rw [b2, nI_clamp (by omega), nI_clamp (by omega), m.i 99 b, m.i 99 i, fb.1, fi.1, nI_leI (by omega) (by omega)]
          refine ⟨vin (by omega), vin (by omega), fun z2 => ?_, fun z2 => take fun k hk hc => ?_⟩
          · refine sgX12_nextOf_103 _ _ _ _ hd hS ?_
            rw [nI_1]
            refine ih (i + 1) (nI b) (by omega) (Or.inr ⟨b, by omega, rfl, b3, fun k hk hc => ?_⟩)
            by_cases q : k = i
            · rw [q]; exact Or.inr (by unfold ltD; omega)
            · exact b4 k (by omega) hc
          · obtain q | q := b4 k hk hc
            · rw [q]; exact Or.inl (by omega)
            · exact ltD_tr (b := b) (Or.inl (by omega)) q
    refine sgX12_nextOf_5 _ _ _ _ hd hS ⟨fun z => absurd z (by rw [m.i 91 6, V.d.1]; exact nI_ge hi (by omega)), fun _ => ok_standsM hd hS V m hi ⟨fun z => skip ?_, fun z => ok_isOfM (by omega) hS m (by omega) ⟨fun z2 => skip ?_, fun z2 => ?_⟩⟩⟩
    · obtain ⟨_, e2⟩ | ⟨e', _, _, e2⟩ := hy <;> rw [e2 i hi, Qh, bI_0.mp z] <;> rfl
    · obtain ⟨_, e2⟩ | ⟨e', _, _, e2⟩ := hy <;> rw [e2 i hi, Qh, bI_0.mp z2] <;> simp
    · have qi : Qh σ j i = true := by rw [Qh, bI_n0.mp z, bI_n0.mp z2]; rfl
      obtain ⟨e1, e2⟩ | ⟨e', he, e1, e2⟩ := hy
      · exact ⟨fun _ => c79 (by rw [e2 i hi, qi]), fun y2 => absurd e1 y2⟩
      · have fe := frN_n V he
        have ci : C i = decide (ltD σ e' i) := by rw [e2 i hi, qi, Bool.true_and]
        rw [e1, nI_clamp (by omega), nI_clamp (by omega), m.i 99 e', m.i 99 i, fe.1, fi.1, nI_ltI (by omega) (by omega), nI_eq (by omega) (by omega)]
        refine ⟨fun y2 => absurd y2 (nI_neg (by omega)), fun _ => ⟨vin (by omega), vin (by omega), fun z3 => ?_, fun z3 => ⟨vin (by omega), vin (by omega), fun z4 => ⟨fun z5 => ?_, fun z5 => ?_⟩, fun z4 => ?_⟩⟩⟩
        · rw [← e1]; exact skip (by rw [ci]; exact decide_eq_false (by unfold ltD; omega))
        · have := (nI_ltI (by omega) (by omega)).mp z5
          rw [← e1]; exact c79 (by rw [ci]; exact decide_eq_true (by unfold ltD; omega))
        · have : ¬ e' < i := fun y2 => z5 (nI_lt y2 (by omega))
          rw [← e1]; exact skip (by rw [ci]; exact decide_eq_false (by unfold ltD; omega))
        · rw [← e1]; exact c79 (by rw [ci]; exact decide_eq_true (by unfold ltD; omega))
/-- the deed of a rank, or none -/
def sqO (σ : Hp) (j p : Nat) : Int32 := if p < nh σ j then nI (sq σ j p) else -1
theorem ok_nextOf {F : Int32 → Hp → Prop} {j : Nat} (hd : 4 ≤ d) (hS : Std h.2.2) (V : VS σ) (m : MC σ h) (hq : F (sqO σ j 0) h) : OKi d mX12_nextOf [.ref 91, .int (nI j), .int (-1)] h F X := by
  have hD := V.d.2
  refine enX12_nextOf _ _ hd hS (lp_nextOf (C := Qh σ j) (Nat.le_refl _) hS V m (Or.inl ⟨rfl, fun _ _ => rfl⟩) (fun f L => ?_) (nD σ) 0 (-1) (by omega) (Or.inl ⟨rfl, fun e he => absurd he (Nat.not_lt_zero _)⟩))
  obtain ⟨e1, e2⟩ | ⟨b, b1, b2, b3, b4⟩ := L
  · have : nh σ j = 0 := fb_ct_zero.mpr e2
    rw [sqO, if_neg (by omega)] at hq
    rw [e1]; exact hq
  · have r0 : rnk σ (Qh σ j) (nD σ) b = 0 := fb_ct_zero.mpr fun k hk => by
      cases qk : Qh σ j k
      · rfl
      · rw [Bool.true_and]
        refine decide_eq_false fun z => ?_
        obtain y | y := b4 k hk qk
        · rw [y] at z; exact ltD_irr b z
        · exact ltD_irr k (ltD_tr z y)
    have lt := rnk_le (σ := σ) b1 b3
    rw [r0] at lt
    have lt : 0 < nh σ j := lt
    have s0 := sq_in V (j := j) (p := 0) lt
    have : sq σ j 0 = b := rnk_inj s0.1 b1 s0.2.1 b3 (by rw [s0.2.2, r0])
    rw [sqO, if_pos lt, this] at hq
    rw [b2]; exact hq
theorem ok_nextOf2 {F : Int32 → Hp → Prop} {j p : Nat} (hd : 4 ≤ d) (hS : Std h.2.2) (V : VS σ) (m : MC σ h) (hp : p < nh σ j) (hq : F (sqO σ j (p + 1)) h) : OKi d mX12_nextOf [.ref 91, .int (nI j), .int (nI (sq σ j p))] h F X := by
  have hD := V.d.2
  have sp := sq_in V hp
  refine enX12_nextOf _ _ hd hS (lp_nextOf (C := fun k => Qh σ j k && decide (ltD σ (sq σ j p) k)) (Nat.le_refl _) hS V m (Or.inr ⟨_, sp.1, rfl, fun _ _ => rfl⟩) (fun f L => ?_) (nD σ) 0 (-1) (by omega) (Or.inl ⟨rfl, fun e he => absurd he (Nat.not_lt_zero _)⟩))
  obtain ⟨e1, e2⟩ | ⟨b, b1, b2, b3, b4⟩ := L
  · have : ¬ p + 1 < nh σ j := fun y => by
      have s1 := sq_in V y
      have : (Qh σ j (sq σ j (p + 1)) && decide (ltD σ (sq σ j p) (sq σ j (p + 1)))) = false := e2 _ s1.1
      rw [s1.2.1, Bool.true_and] at this
      have nl := of_decide_eq_false this
      obtain z | z | z := ltD_tri (σ := σ) (sq σ j p) (sq σ j (p + 1))
      · exact nl z
      · have h1 := sp.2.2
        rw [z, s1.2.2] at h1; omega
      · have := rnk_lt (Q := Qh σ j) s1.1 s1.2.1 z
        rw [s1.2.2, sp.2.2] at this
        omega
    rw [sqO, if_neg this] at hq
    rw [e1]; exact hq
  · simp only [Bool.and_eq_true, decide_eq_true_eq] at b3
    have rb : rnk σ (Qh σ j) (nD σ) b = p + 1 := by
      have u := fb_ct_upd (fun e => Qh σ j e && decide (ltD σ e (sq σ j p))) true (i := sq σ j p) (n := nD σ) sp.1
      have c1 : rnk σ (Qh σ j) (nD σ) b = fb_ct (fun e => if e = sq σ j p then true else (Qh σ j e && decide (ltD σ e (sq σ j p)))) (nD σ) := fb_ct_cong fun e he => by
        by_cases y : e = sq σ j p
        · rw [if_pos y, y, sp.2.1, decide_eq_true b3.2]; rfl
        · rw [if_neg y]
          cases qe : Qh σ j e
          · rw [Bool.false_and, Bool.false_and]
          · rw [Bool.true_and, Bool.true_and]
            refine decide_eq_decide.mpr ⟨fun z => ?_, fun z => ltD_tr z b3.2⟩
            obtain z2 | z2 | z2 := ltD_tri (σ := σ) e (sq σ j p)
            · exact z2
            · exact absurd z2 y
            · obtain z3 | z3 := b4 e he (show (Qh σ j e && decide (ltD σ (sq σ j p) e)) = true by rw [qe, decide_eq_true z2]; rfl)
              · rw [z3] at z; exact absurd z (ltD_irr b)
              · exact absurd (ltD_tr z z3) (ltD_irr e)
      rw [c1]
      have e0 : (Qh σ j (sq σ j p) && decide (ltD σ (sq σ j p) (sq σ j p))) = false := by rw [decide_eq_false (ltD_irr _), Bool.and_false]
      simp only [e0] at u
      have r2 : fb_ct (fun e => Qh σ j e && decide (ltD σ e (sq σ j p))) (nD σ) = p := sp.2.2
      rw [r2] at u
      simpa using u
    have lt := rnk_le (σ := σ) b1 b3.1
    rw [rb] at lt
    have lt : p + 1 < nh σ j := lt
    have s1 := sq_in V (j := j) (p := p + 1) lt
    have : sq σ j (p + 1) = b := rnk_inj s1.1 b1 s1.2.1 b3.1 (by rw [s1.2.2, rb])
    rw [sqO, if_pos lt, this] at hq
    rw [b2]; exact hq
def SLm (L : List (Nat × Nat)) (q : Hp) : Prop := q.1 91 54 = nI L.length ∧ ∀ i, i < L.length → q.1 127 i = nI (gd L i).1 ∧ q.1 128 i = nI (gd L i).2
theorem ok_laySteps {F : Hp → Prop} (hd : 5 ≤ d) (hS : Std h.2.2) (V : VS σ) (m : MC σ h) (hq : ∀ q, Fr [127, 128] [(91, 54)] h q → SLm (stL σ (nH σ)) q → F q) : OKv d mX12_laySteps [.ref 91] h F X := by
  have hD := V.d.2
  have hH := V.h.2
  have go : ∀ (n j : Nat) (q : Hp), j + n = nH σ → Fr [127, 128] [(91, 54)] h q → SLm (stL σ j) q → E mX12_laySteps 4 0 0 7 [(0, .ref 91), (1, .int (nI j))] [] q (Qv F) X := by
    intro n
    induction n with
    | zero =>
      intro j q e fr S
      have : j = nH σ := by omega
      subst this
      have mq := m.fr fr
      exact sgX12_laySteps_7 _ (Nat.le_refl _) (fr.sd hS) ⟨fun _ => hq q fr S, fun z => absurd (by rw [mq.i 91 4, V.h.1]; exact Int32.le_refl _) z⟩
    | succ n ih =>
      intro j q e fr S
      have hj : j < nH σ := by omega
      have mq := m.fr fr
      have nhl : nh σ j ≤ 60 := Nat.le_trans (fb_ct_le _ _) hD
      have done : ∀ (g : Hp) (x : Int32), Fr [127, 128] [(91, 54)] h g → SLm (stL σ (j + 1)) g → E mX12_laySteps 4 0 0 38 [(0, .ref 91), (1, .int (nI j)), (2, .int x), (3, .int (-1))] [] g (Qv F) X := fun g x fg Sg => by
        refine sgX12_laySteps_38 _ _ _ (Nat.le_refl _) (fg.sd hS) ⟨fun _ => ?_, fun z => absurd rfl z⟩
        rw [nI_1]
        exact ih (j + 1) g (by omega) fg Sg
      refine sgX12_laySteps_7 _ (Nat.le_refl _) (fr.sd hS) ⟨fun z => absurd z (by rw [mq.i 91 4, V.h.1]; exact nI_ge hj (by omega)), fun _ => ok_nextOf (by omega) (fr.sd hS) V mq ?_⟩
      by_cases h0 : nh σ j = 0
      · rw [sqO, if_neg (by omega)]
        refine ⟨fun _ => done q _ fr ?_, fun z => absurd rfl z⟩
        rw [stL, h0]
        have : hlk σ j (0 - 1) = [] := rfl
        rw [this, List.append_nil]
        exact S
      · rw [sqO, if_pos (by omega)]
        have s0 := sq_in V (j := j) (p := 0) (by omega)
        refine ⟨fun z => absurd z (nI_neg (by omega)), fun _ => ok_nextOf2 (by omega) (fr.sd hS) V mq (by omega) ?_⟩
        have inner : ∀ (n' k : Nat) (g : Hp), k + n' = nh σ j → 1 ≤ k → Fr [127, 128] [(91, 54)] h g → SLm (stL σ j ++ hlk σ j (k - 1)) g → E mX12_laySteps 4 0 0 38 [(0, .ref 91), (1, .int (nI j)), (2, .int (nI (sq σ j (k - 1)))), (3, .int (sqO σ j k))] [] g (Qv F) X := by
          intro n'
          induction n' with
          | zero =>
            intro k g ek h1 fg Sg
            have : k = nh σ j := by omega
            subst this
            rw [sqO, if_neg (Nat.lt_irrefl _)]
            exact done g _ fg Sg
          | succ n' ih2 =>
            intro k g ek h1 fg Sg
            have hk : k < nh σ j := by omega
            obtain ⟨c', rfl⟩ : ∃ c', k = c' + 1 := ⟨k - 1, by omega⟩
            have sl := st_lt V (show j < 20 by omega) (k := c') hk
            have len : (stL σ j ++ hlk σ j c').length = (stL σ j).length + c' := by rw [List.length_append, hlk_len]
            rw [Nat.add_sub_cancel] at Sg ⊢
            have mg := m.fr fg
            have s1 := sq_in V hk
            rw [sqO, if_pos hk]
            refine sgX12_laySteps_38 _ _ _ (Nat.le_refl _) (fg.sd hS) ⟨fun z => absurd z (nI_neg (by omega)), fun _ => ?_⟩
            rw [Sg.1, len, nI_clamp (by omega), nI_1]
            have f3 : Fr [127, 128] [(91, 54)] g (hI (hI (hI g 127 ((stL σ j).length + c') (nI (sq σ j c'))) 128 ((stL σ j).length + c') (nI (sq σ j (c' + 1)))) 91 54 (nI ((stL σ j).length + c' + 1))) := Fr.tr Fr.pI (Fr.tr Fr.pI Fr.pI)
            refine ⟨vin (by omega), vin (by omega), ok_nextOf2 (by omega) (f3.sd (fg.sd hS)) V (mg.fr f3) hk ?_⟩
            have := ih2 (c' + 1 + 1) (hI (hI (hI g 127 ((stL σ j).length + c') (nI (sq σ j c'))) 128 ((stL σ j).length + c') (nI (sq σ j (c' + 1)))) 91 54 (nI ((stL σ j).length + c' + 1))) (by omega) (by omega) (Fr.tr fg f3) (by
              rw [Nat.add_sub_cancel]
              have eL : stL σ j ++ hlk σ j (c' + 1) = (stL σ j ++ hlk σ j c') ++ [(sq σ j c', sq σ j (c' + 1))] := by rw [hlk, List.append_assoc]
              rw [eL]
              refine ⟨by rw [hI_k, List.length_append, len]; rfl, fun i hi => ?_⟩
              rw [List.length_append, len] at hi
              have hi : i < (stL σ j).length + c' + 1 := hi
              rw [hI_c (by decide), hI_c (by decide), hI_if, hI_c (by decide), hI_if]
              by_cases y : i = (stL σ j).length + c'
              · rw [if_pos y, if_pos y, y, ← len, gd_end]; exact ⟨rfl, rfl⟩
              · rw [if_neg y, if_neg y, gd_lo (by omega)]
                exact Sg.2 i (by omega))
            rw [Nat.add_sub_cancel] at this
            exact this
        refine inner (nh σ j - 1) 1 q (by omega) (Nat.le_refl _) fr ?_
        have : hlk σ j (1 - 1) = [] := rfl
        rw [this, List.append_nil]
        exact S
  have f0 : Fr [] [(91, 54)] h (hI h 91 54 0) := Fr.pI
  exact enX12_laySteps hd hS (go (nH σ) 0 _ (by omega) (Fr.mono f0) ⟨hI_k, fun i hi => absurd hi (Nat.not_lt_zero _)⟩)
end STEPSM
