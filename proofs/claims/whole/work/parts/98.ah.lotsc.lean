/-! lots by the class -/
section LOTSC
variable {σ h : Hp} {d S : Nat} {X : String → Hp → Prop} {late : Bool} {a wv sd ti : Int32} {w : Nat → Nat → Int32}
theorem LK.f2 {q : Hp} {L : List Nat} {fs : List (Nat × Nat)} (K : LK σ w S h) (fr : Fr L fs h q) (hs : Shw w S q) (hL : ∀ y ∈ L, y ≠ 34 ∧ y ≠ 35 ∧ y ≠ 36 ∧ y ≠ 37 ∧ y ≠ 42 ∧ y ≠ 43 ∧ y ≠ 44 := by decide) (hf : ∀ p ∈ fs, p.1 < 22 ∨ 44 < p.1 := by decide) : LK σ w S q := by
  have no : ∀ y k, y = 34 ∨ y = 35 ∨ y = 36 ∨ y = 37 ∨ y = 42 ∨ y = 43 ∨ y = 44 → inW L fs y k = false := fun y k h1 => by
    simp only [inW, Bool.or_eq_false_iff, List.contains_eq_mem, decide_eq_false_iff_not]
    refine ⟨fun z => ?_, fun z => ?_⟩
    · have := hL y z; omega
    · have := hf _ z; simp only at this; omega
  refine ⟨by rw [fr.1]; exact K.1, fun k => by rw [fr.l 34 3 (no _ _ (by decide))]; exact K.2.1 k, fun k hk b => by rw [fr.l 35 k (no _ _ (by decide)), fr.l 36 k (no _ _ (by decide))]; exact K.2.2.1 k hk b, fun m hm => by rw [fr.i 37 m (no _ _ (by decide))]; exact K.2.2.2.1 m hm, fun m v hm hv => ?_, hs⟩
  rw [fr.i 44 _ (no _ _ (by decide))]
  obtain z | ⟨z, z2⟩ := K.2.2.2.2.1 m v hm hv
  · exact Or.inl z
  · exact Or.inr ⟨z, fun o ho => by rw [fr.i 42 _ (no _ _ (by decide)), fr.i 42 _ (no _ _ (by decide))]; exact z2.1 o ho, fun o ho => by rw [fr.i 43 _ (no _ _ (by decide))]; exact z2.2 o ho⟩
def LtP (σ : Hp) (i k : Nat) : Bool := stn σ k && !decide (k = i)
def lrow (σ : Hp) (i : Nat) : Nat → Nat := mbP (LtP σ i)
def lnum (σ : Hp) (i : Nat) : Nat := fb_ct (LtP σ i) (nD σ)
theorem LtP_in (V : VS σ) {i k : Nat} (h : LtP σ i k = true) : stn σ k = true ∧ k ≠ i ∧ k < nD σ := by
  simp only [LtP, Bool.and_eq_true, Bool.not_eq_true', decide_eq_false_iff_not] at h
  exact ⟨h.1, h.2, (stn_al h.1).2⟩
theorem lrow_in (V : VS σ) {i k : Nat} (h : k < lnum σ i) : stn σ (lrow σ i k) = true ∧ lrow σ i k ≠ i ∧ lrow σ i k < nD σ := by
  have hD := V.d.2
  exact LtP_in V (mbP_in (P := LtP σ i) (fun j hj => by have := (LtP_in V hj).2.2; omega) h).1
def anyW (σ : Hp) (late : Bool) (i : Nat) (wv : Int32) (u : Nat → Nat → Int32) (n : Nat) : Bool := decide (0 < fb_ct (fun k => decide (wv ≤ pwv σ (wS σ late) u i (lrow σ i k))) n)
def dlt (σ : Hp) (late : Bool) (i : Nat) (x : Int64) : Int64 × (Nat → Nat → Int32) := dlA (lrow σ i) (lnum σ i) (wS σ late) x (nM σ)
def ltS (σ : Hp) (late : Bool) (i : Nat) (wv : Int32) (x : Int64) : Nat → Int64 × Nat
  | 0 => (x, 0)
  | k + 1 => ((dlt σ late i (ltS σ late i wv x k).1).1, (ltS σ late i wv x k).2 + if anyW σ late i wv (dlt σ late i (ltS σ late i wv x k).1).2 (lnum σ i) then 1 else 0)
def cdLots (σ : Hp) (a sd ti : Int32) : Nat := if isD σ a = true then (if sd < 0 ∨ isW ti 1 20 = false then 2 else if dbt σ a.toNatClampNeg = true then 3 else 0) else 1
def vLots (σ : Hp) (late : Bool) (a wv sd ti : Int32) : Int32 := nI (ltS σ late a.toNatClampNeg wv sd.toInt64 ti.toNatClampNeg).2
theorem isW_1 (h : isW ti 1 20 = true) : ∃ j, 1 ≤ j ∧ j ≤ 20 ∧ ti = nI j := by
  simp only [isW, Bool.and_eq_true, decide_eq_true_eq] at h
  obtain ⟨j, hj, e⟩ := nI_nat (Int32.le_trans (show (0 : Int32) ≤ 1 by decide) h.1)
  rw [e] at h
  exact ⟨j, (nI_leI (a := 1) (by decide) hj).mp h.1, (nI_leI (b := 20) hj (by decide)).mp h.2, e⟩
theorem ok_layRow {F : Int32 → Hp → Prop} {x : Int64} {i : Nat} (hd : 2 ≤ d) (hS : Std h.2.2) (V : VS σ) (hx : ∀ k, hb x k = LtP σ i k) (hq : ∀ q, Fr [90] [] h q → (∀ k, k < lnum σ i → q.1 90 k = nI (lrow σ i k)) → F (nI (lnum σ i)) q) : OKi d mX11_layRow [.ref 0, .long x] h F X := by
  have hD := V.d.2
  have h64 : ∀ j, LtP σ i j = true → j < 64 := fun j hj => by have := (LtP_in V hj).2.2; omega
  have e60 : fb_ct (LtP σ i) 60 = lnum σ i := (ct_cut hD fun k h1 _ => Bool.eq_false_iff.mpr fun z => by have := (LtP_in V z).2.2; omega).symm
  have go : ∀ (n j : Nat) (q : Hp), j + n = 60 → Fr [90] [] h q → (∀ k, k < fb_ct (LtP σ i) j → q.1 90 k = nI (lrow σ i k)) → E mX11_layRow 1 0 0 5 [(0, .ref 0), (1, .long x), (3, .int (nI (fb_ct (LtP σ i) j))), (4, .int (nI j))] [] q (Qi F) X := by
    intro n
    induction n with
    | zero =>
      intro j q e fr I
      have : j = 60 := by omega
      subst this
      rw [e60] at I ⊢
      exact sgX11_layRow_5 _ _ _ (Nat.le_refl _) (fr.sd hS) ⟨fun _ => hq q fr I, fun z => absurd (Int32.le_refl _) z⟩
    | succ n ih =>
      intro j q e fr I
      have hj : j < 60 := by omega
      have mono := fb_ct_le (LtP σ i) j
      refine sgX11_layRow_5 _ _ _ (Nat.le_refl _) (fr.sd hS) ⟨fun z => absurd z (nI_ge (a := j) (b := 60) (by omega) (by omega)), fun _ => ok_has (by omega) (fr.sd hS) (by omega) ?_⟩
      rw [hx, nI_1 j]
      refine ⟨fun z => ?_, fun z => ⟨vin (by omega), ?_⟩⟩
      · have z1 := bI_0.mp z
        have es : fb_ct (LtP σ i) (j + 1) = fb_ct (LtP σ i) j := by rw [fb_ct_succ, z1, if_neg (by decide), Nat.add_zero]
        have := ih (j + 1) q (by omega) fr (fun k hk => I k (by rw [← es]; exact hk))
        rw [es] at this
        exact this
      · have z1 := bI_n0.mp z
        have es : fb_ct (LtP σ i) (j + 1) = fb_ct (LtP σ i) j + 1 := by rw [fb_ct_succ, z1, if_pos rfl]
        rw [nI_1, ← es, nI_clamp (by omega)]
        refine ih (j + 1) _ (by omega) (Fr.tr fr Fr.pI) fun k hk => ?_
        rw [hI_if]
        by_cases e2 : k = fb_ct (LtP σ i) j
        · rw [if_pos e2, e2, lrow, mbP_at h64 z1]
        · rw [if_neg e2]; exact I k (by omega)
  exact enX11_layRow _ hd hS (go 60 0 h (by omega) Fr.rf fun k hk => absurd hk (Nat.not_lt_zero _))
theorem anyW_s {i : Nat} {u : Nat → Nat → Int32} (n : Nat) : anyW σ late i wv u (n + 1) = (anyW σ late i wv u n || decide (wv ≤ pwv σ (wS σ late) u i (lrow σ i n))) := by
  rw [anyW, anyW, fb_ct_succ, ← Bool.decide_or]
  refine decide_eq_decide.mpr ?_
  by_cases q : wv ≤ pwv σ (wS σ late) u i (lrow σ i n)
  · rw [if_pos (decide_eq_true q)]
    exact ⟨fun _ => Or.inr q, fun _ => Nat.succ_pos _⟩
  · rw [if_neg (by rw [decide_eq_false q]; decide), Nat.add_zero]
    exact ⟨Or.inl, fun z => z.resolve_right q⟩
theorem anyW_up {i : Nat} {u : Nat → Nat → Int32} {m n : Nat} (h : m ≤ n) (hm : anyW σ late i wv u m = true) : anyW σ late i wv u n = true := by
  rw [anyW, decide_eq_true_eq] at hm ⊢
  exact Nat.lt_of_lt_of_le hm (fb_ct_mono _ h)
theorem ok_some {F : Int32 → Hp → Prop} {i : Nat} {u : Nat → Nat → Int32} (hd : 6 ≤ d) (hS : Std h.2.2) (V : VS σ) (c : CS σ h) (L : LK σ (wS σ late) (SR late) h) (s : Shw u 30 h) (hu : ∀ p q, S03 (u p q)) (hi : i < 60) (hr : ∀ k, k < lnum σ i → h.1 90 k = nI (lrow σ i k))
    (hq : ∀ q, Fr [42, 43, 44] [] h q → LK σ (wS σ late) (SR late) q → F (bI (anyW σ late i wv u (lnum σ i))) q) : OKi d mX11_someIsWorth [.ref 0, .int (nI i), .int wv, .int (nI (lnum σ i))] h F X := by
  have hD := V.d.2
  have n60 : lnum σ i ≤ 60 := Nat.le_trans (fb_ct_le _ _) hD
  have go : ∀ (n k : Nat) (q : Hp), k + n = lnum σ i → Fr [42, 43, 44] [] h q → LK σ (wS σ late) (SR late) q → anyW σ late i wv u k = false → E mX11_someIsWorth 5 0 0 3 [(0, .ref 0), (1, .int (nI i)), (2, .int wv), (3, .int (nI (lnum σ i))), (4, .int (nI k))] [] q (Qi F) X := by
    intro n
    induction n with
    | zero =>
      intro k q e fr Lq no
      have : k = lnum σ i := by omega
      subst this
      have := hq q fr Lq
      rw [no] at this
      exact sgX11_someIsWorth_3 _ _ _ _ (Nat.le_refl _) (fr.sd hS) ⟨fun _ => this, fun z => absurd (Int32.le_refl _) z⟩
    | succ n ih =>
      intro k q e fr Lq no
      have hk : k < lnum σ i := by omega
      have ri := lrow_in V hk
      have cq := c.kc (fr.kc hS)
      refine sgX11_someIsWorth_3 _ _ _ _ (Nat.le_refl _) (fr.sd hS) ⟨fun z => absurd z (nI_ge hk (by omega)), fun _ => ⟨fun z => absurd z (nI_ge (a := k) (b := 60) (by omega) (by omega)), fun _ => ⟨vin (by omega), ?_⟩⟩⟩
      rw [nI_clamp (by omega), fr.i 90 k, hr k hk]
      refine ok_pairWorth (u := u) (SR_ok late) shok_30 (by omega) (fr.sd hS) V cq.n (cq.mk V) Lq (s.fw shok_30 fr) hu hi (by omega) fun q2 f2 L2 => ⟨fun z => ?_, fun z => ?_⟩
      · rw [nI_1]
        exact ih (k + 1) q2 (by omega) (Fr.tr fr f2) L2 (by rw [anyW_s, no, decide_eq_false (Int32.not_le.mpr z)]; rfl)
      · have := hq q2 (Fr.tr fr f2) L2
        rw [anyW_up (m := k + 1) (by omega) (by rw [anyW_s, decide_eq_true (Int32.not_lt.mp z), Bool.or_true])] at this
        exact this
  exact enX11_someIsWorth _ _ _ hd hS (go (lnum σ i) 0 h (by omega) Fr.rf L rfl)
theorem ok_lotsC {F : Int32 → Hp → Prop} (hd : 8 ≤ d) (hS : Std h.2.2) (V : VS σ) (c : CS σ h) (hq : CR h (cdLots σ a sd ti) (vLots σ late a wv sd ti) (t3 nse iae ise) F X) : OKi d mX11_lots [.ref 0, .int a, .int wv, .int sd, .int ti, .int (bI late)] h F X := by
  have hD := V.d.2
  have hM := V.m.2
  refine enX11_lots _ _ _ _ _ hd hS (ok_needDeed (by omega) hS V c.1 (fun h1 => ⟨fun z => ?_, fun z => ok_isW (a := 1) (b := 20) rfl rfl (by omega) hS ⟨fun z2 => ?_, fun z2 => ?_⟩⟩) fun h1 => ?_)
  · have e : cdLots σ a sd ti = 2 := by rw [cdLots, if_pos h1, if_pos (Or.inl z)]
    rw [e] at hq
    exact hq.2 (by decide) h (Kp.rf hS)
  · have e : cdLots σ a sd ti = 2 := by rw [cdLots, if_pos h1, if_pos (Or.inr (bI_0.mp z2))]
    rw [e] at hq
    exact hq.2 (by decide) h (Kp.rf hS)
  · have hw := bI_n0.mp z2
    have nn : ¬ (sd < 0 ∨ isW ti 1 20 = false) := by
      rintro (y | y)
      · exact z y
      · rw [hw] at y; cases y
    obtain ⟨i, ali, em, hi⟩ := isD_t V h1
    obtain ⟨T, t1', t2', et⟩ := isW_1 hw
    subst em et
    refine ok_needUndoubted (by omega) hS V c.1 hi (fun h2 => ?_) fun h2 => ?_
    · have e : cdLots σ (nI i) sd (nI T) = 0 := by rw [cdLots, if_pos h1, if_neg nn, nI_clamp (by omega), h2]; rfl
      rw [e] at hq
      refine ok_sheet (by omega) hS ⟨SR_ok late, ok_layC (w := wS σ late) (SR_ok late) (by omega) hS V c.1 (c.mk V) (c.sr late) fun q1 f1 L1 => ?_⟩
      have k1 := kc_R (SR_ok late) hS f1
      have c1 := c.kc k1
      refine ok_standing (by omega) k1.1 V c1.1 fun r hr => ok_only (by omega) k1.1 (ok_layRow (i := i) (by omega) k1.1 V (fun k => ?_) fun q2 f2 r2 => ?_)
      · rw [hb_and, hr, LtP]
        by_cases hk : k < 64
        · rw [hb_not hk, hb_only (by omega)]
        · have : stn σ k = false := Bool.eq_false_iff.mpr fun z => by have := (stn_al z).2; omega
          rw [this]; rfl
      have n60 : lnum σ i ≤ 60 := Nat.le_trans (fb_ct_le _ _) hD
      have go : ∀ (n k : Nat) (q : Hp), k + n = T → Kp scr h q → LK σ (wS σ late) (SR late) q → (∀ k, k < lnum σ i → q.1 90 k = nI (lrow σ i k)) → E mX11_lots 7 2 12 83 [(0, .ref 0), (1, .int (nI i)), (2, .int wv), (4, .int (nI T)), (5, .int (bI late)), (6, .int (nI (lnum σ i))), (7, .long (ltS σ late i wv sd.toInt64 k).1), (9, .int (nI (ltS σ late i wv sd.toInt64 k).2)), (10, .int (nI k))] [] q (Qi F) X := by
        intro n
        induction n with
        | zero =>
          intro k q e kq L rq
          have : k = T := by omega
          subst this
          have := hq.1 rfl q kq
          rw [vLots, nI_clamp (by omega), nI_clamp (by omega)] at this
          exact sgX11_lots_83k _ _ _ _ _ _ _ _ (Nat.le_refl _) kq.1 ⟨fun _ => this, fun z => absurd (Int32.le_refl _) z⟩
        | succ n ih =>
          intro k q e kq L rq
          have ck := c.kc kq
          have cp : ∀ {g : Hp}, Fr [31, 32, 33] [] q g → Kp scr h g := fun f => kq.tr (f.kc kq.1)
          refine sgX11_lots_83k _ _ _ _ _ _ _ _ (Nat.le_refl _) kq.1 ⟨fun z => absurd z (nI_ge (by omega) (by omega)), fun _ => ok_sheet (by omega) kq.1 ⟨SR_ok late, ok_copyFrom (w := wS σ late) shok_30 (SR_ok late) (by cases late <;> decide) (by omega) kq.1 (ck.sr late) fun q3 f3 s3 => ?_⟩⟩
          have inner : ∀ (m j : Nat) (g : Hp), j + m = nM σ → Fr [31, 32, 33] [] q g → Shw (dlA (lrow σ i) (lnum σ i) (wS σ late) (ltS σ late i wv sd.toInt64 k).1 j).2 30 g →
              E mX11_lots 7 2 12 106 [(0, .ref 0), (1, .int (nI i)), (2, .int wv), (4, .int (nI T)), (5, .int (bI late)), (6, .int (nI (lnum σ i))), (7, .long (dlA (lrow σ i) (lnum σ i) (wS σ late) (ltS σ late i wv sd.toInt64 k).1 j).1), (9, .int (nI (ltS σ late i wv sd.toInt64 k).2)), (10, .int (nI k)), (11, .int (nI j))] [] g (Qi F) X := by
            intro m
            induction m with
            | zero =>
              intro j g ej fg sg
              have : j = nM σ := by omega
              subst this
              have kg := cp fg
              have cg := c.kc kg
              have Lg : LK σ (wS σ late) (SR late) g := L.f2 fg (cg.sr late)
              refine sgX11_lots_106k _ _ _ _ _ _ _ _ _ (Nat.le_refl _) kg.1 ⟨fun _ => ?_, fun z => absurd (by rw [cg.mk V]; exact Int32.le_refl _) z⟩
              refine ok_some (late := late) (wv := wv) (by omega) kg.1 V cg Lg sg (dlA_03 (wS_03 V late) _) (by omega) (fun k' hk' => by rw [fg.i 90 k']; exact rq k' hk') fun g2 f4 L4 => ?_
              have := ih (k + 1) g2 (by omega) (kg.tr (f4.kc kg.1)) L4 (fun k' hk' => by rw [f4.i 90 k', fg.i 90 k']; exact rq k' hk')
              rw [nI_1 k]
              have es : (ltS σ late i wv sd.toInt64 (k + 1)).2 = (ltS σ late i wv sd.toInt64 k).2 + if anyW σ late i wv (dlt σ late i (ltS σ late i wv sd.toInt64 k).1).2 (lnum σ i) then 1 else 0 := rfl
              rw [es] at this
              refine ⟨fun z => ?_, fun z => ?_⟩
              · rw [show anyW σ late i wv (dlt σ late i (ltS σ late i wv sd.toInt64 k).1).2 (lnum σ i) = false from bI_0.mp z, if_neg (by decide), Nat.add_zero] at this
                exact this
              · rw [show anyW σ late i wv (dlt σ late i (ltS σ late i wv sd.toInt64 k).1).2 (lnum σ i) = true from bI_n0.mp z, if_pos rfl, ← nI_1] at this
                exact this
            | succ m ih2 =>
              intro j g ej fg sg
              have hj : j < nM σ := by omega
              have kg := cp fg
              refine sgX11_lots_106k _ _ _ _ _ _ _ _ _ (Nat.le_refl _) kg.1 ⟨fun z => absurd z (by rw [(c.kc kg).mk V]; exact nI_ge hj (by omega)), fun _ => ?_⟩
              refine ok_deal (row := lrow σ i) shok_30 (by omega) kg.1 sg (dlA_03 (wS_03 V late) _) (by omega) n60 (fun k' hk' => ⟨by rw [fg.i 90 k']; exact rq k' hk', by have := (lrow_in V hk').2.2; omega⟩) fun g2 f4 s4 => ?_
              rw [nI_1 j]
              exact ih2 (j + 1) g2 (by omega) (Fr.tr fg f4) s4
          exact inner (nM σ) 0 q3 (by omega) f3 s3
      exact go T 0 q2 (by omega) (k1.tr (f2.kc k1.1)) (L1.fr (SR_ok late) f2) r2
    · have e : cdLots σ (nI i) sd (nI T) = 3 := by rw [cdLots, if_pos h1, if_neg nn, nI_clamp (by omega), h2]; rfl
      rw [e] at hq
      exact hq.2 (by decide) h (Kp.rf hS)
  · have e : cdLots σ a sd ti = 1 := by rw [cdLots, if_neg (by rw [h1]; decide)]
    rw [e] at hq
    exact hq.2 (by decide) h (Kp.rf hS)
end LOTSC
