/-! maps drawn: class and reference -/
section DRAW
variable {σ h : Hp} {d : Nat} {X : String → Hp → Prop} {s : Int32}
theorem ok_draw {F : Hp → Prop} {i : Nat} (hd : 4 ≤ d) (hS : Std h.2.2) (V : VS σ) (c : CS σ h) (hi : i < nD σ) (hq : ∀ q, Kp scr h q → (∀ p, p < nP σ → q.1 61 p = nI (shF σ i s p)) → F q) : OKv d mX9_draw [.ref 57, .int (nI i), .int s] h F X := by
  have hD := V.d.2
  have hP := V.p.2
  have di := V.de hi
  have h0 : 0 < nP σ := by omega
  have lf := lf_lt V i s h0
  have al := alW_le V i s (nP σ)
  refine enX9_draw _ _ hd hS (ok_gather (by omega) hS V c fun q0 f0 S0 => ?_)
  have S0 : SLc (sL σ) q0 := S0
  have k0' := f0.kc hS
  have e11 : ∀ q, Fr [61, 62] [] q0 q → q.1 1 1 = nI (nP σ) := fun q f => by rw [f.i 1 1, f0.i 1 1]; exact c.2.1.1
  have l3 : ∀ (n k : Nat) (q : Hp), k + n = lf0 σ i s (nP σ) → Fr [61, 62] [] q0 q → (∀ p, p < nP σ → q.1 61 p = nI ((hdo (nP σ) (hS0 σ i s) k).1 p) ∧ q.1 62 p = (hdo (nP σ) (hS0 σ i s) k).2 p) →
      E mX9_draw 3 0 0 159 [(0, .ref 57), (4, .int (nI (lf0 σ i s (nP σ)))), (5, .int (nI k))] [] q (Qv F) X := by
    intro n
    induction n with
    | zero =>
      intro k q e f I
      have : k = lf0 σ i s (nP σ) := by omega
      subst this
      have fin : F q := hq q (k0'.tr (f.kc k0'.1)) fun p hp => (I p hp).1
      exact sgX9_draw_159 _ _ (Nat.le_refl _) (f.sd (f0.sd hS)) ⟨fun _ => fin, fun _ => ⟨fun _ => fin, fun z => absurd (Int32.le_refl _) z⟩⟩
    | succ n ih =>
      intro k q e f I
      have hS' := f.sd (f0.sd hS)
      have ct := hdo_ct (hS0_ct V i s h0) k (by omega)
      refine sgX9_draw_159 _ _ (Nat.le_refl _) hS' ⟨fun z => absurd z (nI_ge (a := k) (b := 30) (by omega) (by omega)), fun _ => ⟨fun z => absurd z (nI_ge (by omega) (by omega)), fun _ => ?_⟩⟩
      refine ok_greatest (S := 0) (ok := okR (hdo (nP σ) (hS0 σ i s) k)) (v := (hdo (nP σ) (hS0 σ i s) k).2) ⟨sa_62, by decide⟩ (by omega) hS' V (e11 q f) (fun p hp => (I p hp).2) (fun p _ => by rw [Nat.zero_testBit]; rfl) ?_
      cases eb : bst (okR (hdo (nP σ) (hS0 σ i s) k)) (hdo (nP σ) (hS0 σ i s) k).2 (nP σ) with
      | none =>
        have : fb_ct (okR (hdo (nP σ) (hS0 σ i s) k)) (nP σ) = 0 := fb_ct_zero.mpr (bst_no eb)
        omega
      | some b =>
        have bi := bst_in eb
        have es : hdo (nP σ) (hS0 σ i s) (k + 1) = _ := hdo1_s eb
        refine ⟨fun z => absurd z (nI_neg (by omega)), fun _ => ?_⟩
        show vp_in (nI b) 30 ∧ (vp_in (nI b) 30 ∧ (vp_in (nI b) 30 ∧ E mX9_draw 3 0 0 159 [(0, .ref 57), (4, .int (nI (lf0 σ i s (nP σ)))), (5, .int (nI k + 1))] [] (hI (hI q 61 (nI b).toNatClampNeg ((q.1 61 (nI b).toNatClampNeg) + (1 : Int32))) 62 (nI b).toNatClampNeg (-1)) (Qv F) X))
        rw [nI_clamp (by omega), (I b bi.1).1, nI_1, nI_1]
        refine ⟨vin (by omega), vin (by omega), vin (by omega), ih (k + 1) _ (by omega) (Fr.tr f (Fr.tr Fr.pI Fr.pI)) fun p hp => ?_⟩
        rw [es, hI_c (by decide), hI_if, hI_if, hI_c (by decide)]
        by_cases y : p = b
        · rw [if_pos y, if_pos y]
          show _ = nI (if p = b then (hdo (nP σ) (hS0 σ i s) k).1 p + 1 else (hdo (nP σ) (hS0 σ i s) k).1 p) ∧ _ = (if p = b then -1 else (hdo (nP σ) (hS0 σ i s) k).2 p)
          rw [if_pos y, if_pos y, y]; exact ⟨rfl, rfl⟩
        · rw [if_neg y, if_neg y]
          show _ = nI (if p = b then (hdo (nP σ) (hS0 σ i s) k).1 p + 1 else (hdo (nP σ) (hS0 σ i s) k).1 p) ∧ _ = (if p = b then -1 else (hdo (nP σ) (hS0 σ i s) k).2 p)
          rw [if_neg y, if_neg y]; exact I p hp
  have l2 : ∀ (n k : Nat) (q : Hp), k + n = nP σ → Fr [61, 62] [] q0 q → (∀ p, p < k → q.1 61 p = nI (sh0 σ i s p) ∧ q.1 62 p = nI (rs0 σ i s p)) → (∀ p, k ≤ p → p < nP σ → q.1 61 p = nI (wgt σ i s p)) →
      E mX9_draw 3 0 0 81 [(0, .ref 57), (3, .int (nI (alW σ i s (nP σ)))), (4, .int (nI (lf0 σ i s k))), (5, .int (nI k))] [] q (Qv F) X := by
    intro n
    induction n with
    | zero =>
      intro k q e f I J
      have : k = nP σ := by omega
      subst this
      refine sgX9_draw_81 _ _ _ (Nat.le_refl _) (f.sd (f0.sd hS)) ⟨fun _ => l3 _ 0 q (Nat.zero_add _) f fun p hp => I p hp, fun z => absurd (by rw [e11 q f]; exact Int32.le_refl _) z⟩
    | succ n ih =>
      intro k q e f I J
      have hk : k < nP σ := by omega
      have w := wgt_le V i s k
      have hr := Nat.mod_lt (10000 * wgt σ i s k) (y := alW σ i s (nP σ)) (by omega)
      refine sgX9_draw_81 _ _ _ (Nat.le_refl _) (f.sd (f0.sd hS)) ⟨fun z => absurd z (by rw [e11 q f]; exact nI_ge hk (by omega)), fun _ => ?_⟩
      rw [nI_clamp (by omega), J k (Nat.le_refl _) hk, lit_w]
      refine ⟨vin (by omega), ok_quotient (by omega) (f.sd (f0.sd hS)) ?_⟩
      rw [quo_nI (by omega) (by omega) (by omega), hI_k, rest_nI (by omega) (by omega) (by omega), nI_1]
      have e1 : nI (lf0 σ i s k) - nI (10000 * wgt σ i s k / alW σ i s (nP σ)) = nI (lf0 σ i s (k + 1)) := lf_s V i s h0 hk
      rw [e1]
      refine ⟨vin (by omega), vin (by omega), vin (by omega), vin (by omega), ih (k + 1) _ (by omega) (Fr.tr f (Fr.tr Fr.pI Fr.pI)) (fun p hp => ?_) fun p h1 h2 => ?_⟩
      · rw [hI_c (by decide), hI_if, hI_if, hI_c (by decide)]
        by_cases y : p = k
        · rw [if_pos y, if_pos y, y]; exact ⟨rfl, rfl⟩
        · rw [if_neg y, if_neg y]; exact I p (by omega)
      · rw [hI_c (by decide), hI_j (by omega)]; exact J p (by omega) h2
  have l1 : ∀ (n k : Nat) (q : Hp), k + n = nP σ → Fr [61] [] q0 q → (∀ p, p < k → q.1 61 p = nI (wgt σ i s p)) →
      E mX9_draw 3 0 0 9 [(0, .ref 57), (1, .int (nI i)), (2, .int s), (3, .int (nI (alW σ i s k))), (4, .int (nI k))] [] q (Qv F) X := by
    intro n
    induction n with
    | zero =>
      intro k q e f I
      have : k = nP σ := by omega
      subst this
      refine sgX9_draw_9 _ _ _ _ (Nat.le_refl _) (f.sd (f0.sd hS)) ⟨fun _ => l2 _ 0 q (Nat.zero_add _) f.mono (fun p hp => absurd hp (Nat.not_lt_zero _)) fun p _ hp => I p hp, fun z => absurd (by rw [e11 q f.mono]; exact Int32.le_refl _) z⟩
    | succ n ih =>
      intro k q e f I
      have hk : k < nP σ := by omega
      have hS' := f.sd (f0.sd hS)
      have kq := k0'.tr (f.kc k0'.1)
      have cq := c.kc kq
      refine sgX9_draw_9 _ _ _ _ (Nat.le_refl _) hS' ⟨fun z => absurd z (by rw [e11 q f.mono]; exact nI_ge hk (by omega)), fun _ => ?_⟩
      rw [nI_clamp (by omega), nI_clamp (by omega), (cq.1.de hi).1, di.1.1, nI_1]
      refine ⟨vin (by omega), ok_distanceC (by omega) hS' cq.2.1 di.1.2 hk hP (ok_farOf (by omega) hS' (ok_movesOf (by omega) hS' V cq (S0.fr f) ⟨vin (by omega), vin (by omega), ?_⟩))⟩
      rw [hI_k, lit_1w]
      have := ih (k + 1) (hI q 61 k (nI (wgt σ i s k))) (by omega) (Fr.tr f Fr.pI) fun p hp => by
        rw [hI_if]
        by_cases y : p = k
        · rw [if_pos y, y]
        · rw [if_neg y]; exact I p (by omega)
      rw [show alW σ i s (k + 1) = alW σ i s k + wgt σ i s k from rfl, ← nI_add] at this
      exact this
  exact l1 _ 0 q0 (Nat.zero_add _) Fr.rf fun p hp => absurd hp (Nat.not_lt_zero _)
/-- the reference's way to the greatest rest -/
def amx (v : Nat → Int32) : Nat → Nat
  | 0 => 0
  | k + 1 => if v (amx v k) < v k then k else amx v k
theorem amx_le (v : Nat → Int32) : ∀ k, amx v (k + 1) ≤ k
  | 0 => by rw [amx]; split <;> exact Nat.le_refl _
  | k + 1 => by
    have := amx_le v k
    rw [amx]; split <;> omega
theorem amx_b {v : Nat → Int32} : ∀ k, bst (fun p => decide (-1 < v p)) v k = none ∨ bst (fun p => decide (-1 < v p)) v k = some (amx v k)
  | 0 => Or.inl rfl
  | k + 1 => by
    obtain e | e := amx_b (v := v) k
    · rw [bst_n e]
      by_cases q : decide (-1 < v k) = true
      · right
        rw [if_pos q, amx]
        have q' := of_decide_eq_true q
        cases k with
        | zero => split <;> rfl
        | succ k =>
          have le := amx_le v k
          have no := of_decide_eq_false (bst_no e (amx v (k + 1)) (by omega))
          rw [if_pos]
          rw [fa_lt] at no q' ⊢
          omega
      · left; rw [if_neg q]
    · right
      have i := of_decide_eq_true (bst_in e).2
      rw [bst_s e, amx]
      by_cases q : v (amx v k) < v k
      · have : -1 < v k := by
          rw [fa_lt] at i q ⊢
          omega
        rw [if_pos q, decide_eq_true q, decide_eq_true this, if_pos (show (true && true) = true from rfl)]
      · rw [if_neg q, decide_eq_false q, Bool.and_false, if_neg (by decide)]
theorem ok_layMap {F : Hp → Prop} {i : Nat} (hd : 6 ≤ d) (hS : Std h.2.2) (V : VS σ) (mc : MC σ h) (hi : i < nD σ) (hq : ∀ q, Kp scm h q → q.1 91 0 = h.1 91 0 → (∀ p, p < nP σ → q.1 129 p = nI (shF σ i s p)) → F q) : OKv d mX12_layMap [.ref 91, .int (nI i), .int s] h F X := by
  have hD := V.d.2
  have hP := V.p.2
  have di := V.de hi
  have h0 : 0 < nP σ := by omega
  have lf := lf_lt V i s h0
  have al := alW_le V i s (nP σ)
  refine enX12_layMap _ _ hd hS (ok_laySteps (by omega) hS V mc fun q0 f0 S0 => ?_)
  have S0 : SLm (sL σ) q0 := S0
  have k0' := f0.km hS
  have mq : ∀ q, Fr [129, 130] [] q0 q → MC σ q := fun q f => (mc.fr f0).fr f
  have e2 : ∀ q, Fr [129, 130] [] q0 q → q.1 91 2 = nI (nP σ) := fun q f => by rw [(mq q f).i 91 2]; exact V.p.1
  have l3 : ∀ (n k : Nat) (q : Hp), k + n = lf0 σ i s (nP σ) → Fr [129, 130] [] q0 q → (∀ p, p < nP σ → q.1 129 p = nI ((hdo (nP σ) (hS0 σ i s) k).1 p) ∧ q.1 130 p = (hdo (nP σ) (hS0 σ i s) k).2 p) →
      E mX12_layMap 5 0 0 134 [(0, .ref 91), (4, .int (nI n))] [] q (Qv F) X := by
    intro n
    induction n with
    | zero =>
      intro k q e f I
      have : k = lf0 σ i s (nP σ) := by omega
      subst this
      exact sgX12_layMap_134 _ (Nat.le_refl _) (f.sd (f0.sd hS)) ⟨fun _ => hq q (k0'.tr (f.km k0'.1)) (by rw [f.i 91 0, f0.i 91 0]) fun p hp => (I p hp).1, fun z => absurd (show nI 0 ≤ (0 : Int32) by decide) z⟩
    | succ n ih =>
      intro k q e f I
      have hS' := f.sd (f0.sd hS)
      have ct := hdo_ct (hS0_ct V i s h0) k (by omega)
      have inner : ∀ m j : Nat, j + m = nP σ → 1 ≤ j → E mX12_layMap 5 0 0 145 [(0, .ref 91), (4, .int (nI (n + 1))), (5, .int (nI (amx (hdo (nP σ) (hS0 σ i s) k).2 j))), (6, .int (nI j))] [] q (Qv F) X := by
        intro m
        induction m with
        | zero =>
          intro j ej h1
          have : j = nP σ := by omega
          subst this
          obtain eb | eb := amx_b (v := (hdo (nP σ) (hS0 σ i s) k).2) (nP σ)
          · have eb : bst (okR (hdo (nP σ) (hS0 σ i s) k)) (hdo (nP σ) (hS0 σ i s) k).2 (nP σ) = none := eb
            have : fb_ct (okR (hdo (nP σ) (hS0 σ i s) k)) (nP σ) = 0 := fb_ct_zero.mpr (bst_no eb)
            omega
          · generalize amx (hdo (nP σ) (hS0 σ i s) k).2 (nP σ) = b at eb
            have eb : bst (okR (hdo (nP σ) (hS0 σ i s) k)) (hdo (nP σ) (hS0 σ i s) k).2 (nP σ) = some b := eb
            have bi := bst_in eb
            have es : hdo (nP σ) (hS0 σ i s) (k + 1) = _ := hdo1_s eb
            refine sgX12_layMap_145 _ _ _ (Nat.le_refl _) hS' ⟨fun _ => ?_, fun z => absurd (by rw [e2 q f]; exact Int32.le_refl _) z⟩
            rw [nI_clamp (by omega), (I b bi.1).1, nI_1, pk_m1]
            refine ⟨vin (by omega), vin (by omega), vin (by omega), ih (k + 1) _ (by omega) (Fr.tr f (Fr.tr Fr.pI Fr.pI)) fun p hp => ?_⟩
            rw [es, hI_c (by decide), hI_if, hI_if, hI_c (by decide)]
            by_cases y : p = b
            · rw [if_pos y, if_pos y]
              show _ = nI (if p = b then (hdo (nP σ) (hS0 σ i s) k).1 p + 1 else (hdo (nP σ) (hS0 σ i s) k).1 p) ∧ _ = (if p = b then -1 else (hdo (nP σ) (hS0 σ i s) k).2 p)
              rw [if_pos y, if_pos y, y]; exact ⟨rfl, rfl⟩
            · rw [if_neg y, if_neg y]
              show _ = nI (if p = b then (hdo (nP σ) (hS0 σ i s) k).1 p + 1 else (hdo (nP σ) (hS0 σ i s) k).1 p) ∧ _ = (if p = b then -1 else (hdo (nP σ) (hS0 σ i s) k).2 p)
              rw [if_neg y, if_neg y]; exact I p hp
        | succ m ih2 =>
          intro j ej h1
          have hj : j < nP σ := by omega
          obtain ⟨j', rfl⟩ : ∃ j', j = j' + 1 := ⟨j - 1, by omega⟩
          have le := amx_le (hdo (nP σ) (hS0 σ i s) k).2 j'
          have nx := ih2 (j' + 1 + 1) (by omega) (by omega)
          rw [amx] at nx
          refine sgX12_layMap_145 _ _ _ (Nat.le_refl _) hS' ⟨fun z => absurd z (by rw [e2 q f]; exact nI_ge hj (by omega)), fun _ => ?_⟩
          rw [nI_clamp (by omega), nI_clamp (by omega), (I (j' + 1) hj).2, (I (amx (hdo (nP σ) (hS0 σ i s) k).2 (j' + 1)) (by omega)).2, nI_1]
          refine ⟨vin (by omega), vin (by omega), fun z => ?_, fun z => ?_⟩
          · rw [if_neg (Int32.not_lt.mpr z)] at nx; exact nx
          · rw [if_pos (Int32.not_le.mp z)] at nx; exact nx
      refine sgX12_layMap_134 _ (Nat.le_refl _) hS' ⟨fun z => absurd z (nI_nle (by omega) (by omega)), fun _ => ?_⟩
      have := inner (nP σ - 1) 1 (by omega) (Nat.le_refl _)
      have e1 : amx (hdo (nP σ) (hS0 σ i s) k).2 1 = 0 := Nat.le_zero.mp (amx_le _ 0)
      rw [e1] at this
      exact this
  have l2 : ∀ (n k : Nat) (q : Hp), k + n = nP σ → Fr [129, 130] [] q0 q → (∀ p, p < k → q.1 129 p = nI (sh0 σ i s p) ∧ q.1 130 p = nI (rs0 σ i s p)) →
      E mX12_layMap 5 0 0 57 [(0, .ref 91), (1, .int (nI i)), (2, .int s), (3, .int (nI (alW σ i s (nP σ)))), (4, .int (nI (lf0 σ i s k))), (5, .int (nI k))] [] q (Qv F) X := by
    intro n
    induction n with
    | zero =>
      intro k q e f I
      have : k = nP σ := by omega
      subst this
      refine sgX12_layMap_57 _ _ _ _ _ (Nat.le_refl _) (f.sd (f0.sd hS)) ⟨fun _ => l3 _ 0 q (Nat.zero_add _) f fun p hp => I p hp, fun z => absurd (by rw [e2 q f]; exact Int32.le_refl _) z⟩
    | succ n ih =>
      intro k q e f I
      have hk : k < nP σ := by omega
      have hS' := f.sd (f0.sd hS)
      have w := wgt_le V i s k
      have hr := Nat.mod_lt (10000 * wgt σ i s k) (y := alW σ i s (nP σ)) (by omega)
      refine sgX12_layMap_57 _ _ _ _ _ (Nat.le_refl _) hS' ⟨fun z => absurd z (by rw [e2 q f]; exact nI_ge hk (by omega)), fun _ => ?_⟩
      rw [nI_clamp (by omega), nI_clamp (by omega), (mq q f).i 98, di.1.1, nI_1]
      refine ⟨vin (by omega), ok_distanceM (by omega) hS' (mq q f) (by omega) (by omega) (ok_farOfM (by omega) hS' (ok_movesOfM (by omega) hS' V (mq q f) (S0.fr f) ?_))⟩
      have ew : (1 : Int32) + nI (mvs σ (farI (dst σ (plc σ i) k)) s) = nI (wgt σ i s k) := lit_1w _
      rw [hI_k, ew, lit_w, pk_div (by omega) (by omega) (by omega), rest_nI (by omega) (by omega) (by omega)]
      have e1 : nI (lf0 σ i s k) - nI (10000 * wgt σ i s k / alW σ i s (nP σ)) = nI (lf0 σ i s (k + 1)) := lf_s V i s h0 hk
      rw [e1]
      have nz : ¬ nI (alW σ i s (nP σ)) = 0 := nI_ne0 (by omega) (by omega)
      refine ⟨nz, vin (by omega), nz, vin (by omega), vin (by omega), ih (k + 1) _ (by omega) (Fr.tr f (Fr.tr Fr.pI Fr.pI)) fun p hp => ?_⟩
      rw [hI_c (by decide), hI_if, hI_if, hI_c (by decide)]
      by_cases y : p = k
      · rw [if_pos y, if_pos y, y]; exact ⟨rfl, rfl⟩
      · rw [if_neg y, if_neg y]; exact I p (by omega)
  have l1 : ∀ n k : Nat, k + n = nP σ → E mX12_layMap 5 0 0 9 [(0, .ref 91), (1, .int (nI i)), (2, .int s), (3, .int (nI (alW σ i s k))), (4, .int (nI k))] [] q0 (Qv F) X := by
    intro n
    induction n with
    | zero =>
      intro k e
      have : k = nP σ := by omega
      subst this
      refine sgX12_layMap_9 _ _ _ _ (Nat.le_refl _) (f0.sd hS) ⟨fun _ => l2 _ 0 q0 (Nat.zero_add _) Fr.rf (fun p hp => absurd hp (Nat.not_lt_zero _)), fun z => absurd (by rw [e2 q0 Fr.rf]; exact Int32.le_refl _) z⟩
    | succ n ih =>
      intro k e
      have hk : k < nP σ := by omega
      have hS' := f0.sd hS
      have m0 := mq q0 Fr.rf
      refine sgX12_layMap_9 _ _ _ _ (Nat.le_refl _) hS' ⟨fun z => absurd z (by rw [e2 q0 Fr.rf]; exact nI_ge hk (by omega)), fun _ => ?_⟩
      rw [nI_clamp (by omega), m0.i 98, di.1.1, nI_1]
      refine ⟨vin (by omega), ok_distanceM (by omega) hS' m0 (by omega) (by omega) (ok_farOfM (by omega) hS' (ok_movesOfM (by omega) hS' V m0 S0 ?_))⟩
      rw [lit_1w]
      have := ih (k + 1) (by omega)
      rw [show alW σ i s (k + 1) = alW σ i s k + wgt σ i s k from rfl, ← nI_add] at this
      exact this
  exact l1 _ 0 (Nat.zero_add _)
end DRAW
