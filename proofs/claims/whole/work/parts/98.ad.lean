/-! others, bound -/
section OPSE
variable {σ h : Hp} {d : Nat} {X : String → Hp → Prop} {late all : Bool} {a b w : Int32}
def othP (σ : Hp) (late all : Bool) (w : Int32) (i k : Nat) : Bool := (stn σ k && (brd σ i k && !decide (k = i))) && (all || decide (w ≤ pwv σ (wS σ late) (wS σ late) i k))
def cdD (σ : Hp) (a : Int32) : Nat := if isD σ a = true then 0 else 1
def vOthers (σ : Hp) (late all : Bool) (a w : Int32) : Int32 := nI (fb_ct (othP σ late all w a.toNatClampNeg) (nD σ))
theorem ok_othersC {F : Int32 → Hp → Prop} (hd : 8 ≤ d) (hS : Std h.2.2) (V : VS σ) (c : CS σ h) (hq : CR h (cdD σ a) (vOthers σ late all a w) (t1 nse) F X) : OKi d mX11_others [.ref 0, .int a, .int w, .int (bI late), .int (bI all)] h F X := by
  have hD := V.d.2
  refine enX11_others _ _ _ _ hd hS (ok_needDeed (by omega) hS V c.1 (fun h1 => ?_) fun h1 => ?_)
  · have e : cdD σ a = 0 := by rw [cdD, h1]; rfl
    rw [e] at hq
    obtain ⟨i, ali, em, hi⟩ := isD_t V h1
    subst em
    refine ok_sheet (by omega) hS ⟨SR_ok late, ok_layC (w := wS σ late) (SR_ok late) (by omega) hS V c.1 (c.mk V) (c.sr late) fun q1 f1 L1 => ?_⟩
    have k1 := kc_R (SR_ok late) hS f1
    have c1 := c.kc k1
    refine ok_barredFrom (by omega) k1.1 V c1.1 ali fun r1 hr1 => ok_standing (by omega) k1.1 V c1.1 fun r2 hr2 => ?_
    have bits : ∀ k, hb (r1 &&& r2) k = (stn σ k && (brd σ i k && !decide (k = i))) := fun k => by
      rw [hb_and, hr1, hr2]
      cases e : stn σ k
      · rw [Bool.and_false]; rfl
      · rw [(stn_al e).1]; simp
    have go : ∀ (n j : Nat) (q : Hp), j + n = nD σ → Kp scr h q → LK σ (wS σ late) (SR late) q → E mX11_others 7 1 6 45 [(0, .ref 0), (1, .int (nI i)), (2, .int w), (4, .int (bI all)), (5, .ref (SR late)), (6, .long (r1 &&& r2)), (8, .int (nI (fb_ct (othP σ late all w i) j))), (9, .int (nI j))] [] q (Qi F) X := by
      intro n
      induction n with
      | zero =>
        intro j q e k L
        have : j = nD σ := by omega
        subst this
        have := hq.1 rfl q k
        rw [vOthers, nI_clamp (by omega)] at this
        exact sgX11_others_45k _ _ _ _ (SR_ok late) _ _ _ (Nat.le_refl _) k.1 ⟨fun _ => this, fun z => absurd (by rw [(c.kc k).n]; exact Int32.le_refl _) z⟩
      | succ n ih =>
        intro j q e k L
        have hj : j < nD σ := by omega
        have ck := c.kc k
        have nx := fun q2 k2 L2 => ih (j + 1) q2 (by omega) k2 L2
        have skip : othP σ late all w i j = false → ∀ q2, Kp scr h q2 → LK σ (wS σ late) (SR late) q2 → E mX11_others 7 1 6 45 [(0, .ref 0), (1, .int (nI i)), (2, .int w), (4, .int (bI all)), (5, .ref (SR late)), (6, .long (r1 &&& r2)), (8, .int (nI (fb_ct (othP σ late all w i) j))), (9, .int (nI (j + 1)))] [] q2 (Qi F) X := fun hz q2 k2 L2 => by
          have := nx q2 k2 L2
          rw [fb_ct_succ, hz, if_neg (by decide), Nat.add_zero] at this
          exact this
        have take : othP σ late all w i j = true → ∀ q2, Kp scr h q2 → LK σ (wS σ late) (SR late) q2 → E mX11_others 7 1 6 45 [(0, .ref 0), (1, .int (nI i)), (2, .int w), (4, .int (bI all)), (5, .ref (SR late)), (6, .long (r1 &&& r2)), (8, .int (nI (fb_ct (othP σ late all w i) j) + 1)), (9, .int (nI (j + 1)))] [] q2 (Qi F) X := fun hz q2 k2 L2 => by
          have := nx q2 k2 L2
          rw [fb_ct_succ, hz, if_pos rfl, ← nI_1] at this
          exact this
        refine sgX11_others_45k _ _ _ _ (SR_ok late) _ _ _ (Nat.le_refl _) k.1 ⟨fun z => absurd z (by rw [ck.n]; exact nI_ge hj (by omega)), fun _ => ok_has (by omega) k.1 (by omega) ?_⟩
        rw [bits, nI_1 j]
        refine ⟨fun z => skip (by rw [othP, bI_0.mp z]; rfl) q k L, fun z => ?_⟩
        have hb' := bI_n0.mp z
        refine ⟨fun z2 => ok_pairWorth (u := wS σ late) (SR_ok late) (SR_ok late) (by omega) k.1 V ck.n (ck.mk V) L (ck.sr late) (wS_03 V late) (by omega) (by omega) fun q2 f2 L2 => ?_, fun z2 => take (by rw [othP, hb', bI_n0.mp z2]; rfl) q k L⟩
        have k2 := k.tr (f2.kc k.1)
        refine ⟨fun z3 => skip (by rw [othP, bI_0.mp z2, decide_eq_false (Int32.not_le.mpr z3)]; simp) q2 k2 L2, fun z3 => take (by rw [othP, hb', bI_0.mp z2, decide_eq_true (Int32.not_lt.mp z3)]; rfl) q2 k2 L2⟩
    exact go (nD σ) 0 q1 (by omega) k1 L1
  · have e : cdD σ a = 1 := by rw [cdD, h1]; rfl
    rw [e] at hq
    exact hq.2 (by decide) h (Kp.rf hS)
theorem RLaid.fr {q : Hp} {u : Nat → Nat → Int32} {L : List Nat} {fs : List (Nat × Nat)} (R : RLaid σ u h) (f : Fr L fs h q) (hL : ∀ k, inW L fs 112 k = false ∧ inW L fs 113 k = false ∧ inW L fs 114 k = false ∧ inW L fs 115 k = false ∧ inW L fs 116 k = false := by exact fun _ => ⟨rfl, rfl, rfl, rfl, rfl⟩) : RLaid σ u q :=
  ⟨R.1.fr f fun k => (hL k).1, fun a b ha hb' hab => by rw [f.i 113 _ (hL _).2.1]; exact R.2.1 a b ha hb' hab, fun k hk => by rw [f.i 114 _ (hL _).2.2.1]; exact R.2.2.1 k hk, fun a k o v h1 h2 h3 h4 => by rw [f.i 115 _ (hL _).2.2.2.1]; exact R.2.2.2.1 a k o v h1 h2 h3 h4, fun k o v h1 h2 h3 => by rw [f.i 116 _ (hL _).2.2.2.2]; exact R.2.2.2.2 k o v h1 h2 h3⟩
theorem ok_othersM {F : Int32 → Hp → Prop} (hd : 8 ≤ d) (hS : Std h.2.2) (V : VS σ) (mc : MC σ h) (ak : h.1 91 36 = -1) (hq : MR h (cdD σ a) (vOthers σ late all a w) F) : OKi d mX12_others [.ref 91, .int a, .int w, .int (bI late), .int (bI all)] h F X := by
  have hD := V.d.2
  have kk : Kp scm h (hI h 91 0 0) := k0 (Kp.rf hS)
  refine enX12_others _ _ _ _ hd hS (ok_isDeedM (by omega) kk.1 V (mc.km kk) ⟨fun z => ok_failsM (n := 1) (by omega) kk (by rw [cdD, bI_0.mp z]; rfl) (by decide) hq, fun z => ?_⟩)
  have h1 := bI_n0.mp z
  have e : cdD σ a = 0 := by rw [cdD, h1]; rfl
  rw [e] at hq
  obtain ⟨i, ali, em, hi⟩ := isD_t V h1
  subst em
  refine ok_layK (by omega) kk.1 V (mc.km kk) (by rw [hI_j (by decide)]; exact ak) fun q1 k1 e0 R1 => ?_
  have kq := kk.tr k1
  have m1 := mc.km kq
  have e6 : q1.1 91 6 = nI (nD σ) := by rw [m1.i 91 6, V.d.1]
  have go : ∀ n j : Nat, j + n = nD σ → E mX12_others 7 0 0 30 [(0, .ref 91), (1, .int (nI i)), (2, .int w), (4, .int (bI all)), (5, .int (nI (fb_ct (othP σ late all w i) j))), (6, .int (nI j))] [] q1 (Qi F) X := by
    intro n
    induction n with
    | zero =>
      intro j e
      have : j = nD σ := by omega
      subst this
      exact sgX12_others_30 _ _ _ _ _ (Nat.le_refl _) k1.1 ⟨fun _ => hq q1 _ kq (by rw [e0, hI_k]; rfl) fun _ => by rw [vOthers, nI_clamp (by omega)], fun z => absurd (by rw [e6]; exact Int32.le_refl _) z⟩
    | succ n ih =>
      intro j e
      have hj : j < nD σ := by omega
      have nx := ih (j + 1) (by omega)
      have skip : othP σ late all w i j = false → E mX12_others 7 0 0 30 [(0, .ref 91), (1, .int (nI i)), (2, .int w), (4, .int (bI all)), (5, .int (nI (fb_ct (othP σ late all w i) j) + 0)), (6, .int (nI (j + 1)))] [] q1 (Qi F) X := fun hz => by
        rw [fb_ct_succ, hz, if_neg (by decide), Nat.add_zero] at nx
        rw [Int32.add_zero]
        exact nx
      have take : othP σ late all w i j = true → E mX12_others 7 0 0 30 [(0, .ref 91), (1, .int (nI i)), (2, .int w), (4, .int (bI all)), (5, .int (nI (fb_ct (othP σ late all w i) j) + 1)), (6, .int (nI (j + 1)))] [] q1 (Qi F) X := fun hz => by
        rw [fb_ct_succ, hz, if_pos rfl, ← nI_1] at nx
        exact nx
      have ei : (60 : Int32) * nI i + nI j = nI (60 * i + j) := by rw [lit_nI 60, pk_mul, nI_add]
      refine sgX12_others_30 _ _ _ _ _ (Nat.le_refl _) k1.1 ⟨fun z => absurd z (by rw [e6]; exact nI_ge hj (by omega)), fun _ => ?_⟩
      rw [nI_1 j, nI_eq (by omega) (by omega), ei, nI_clamp (by omega)]
      refine ⟨fun z => skip (by rw [othP, decide_eq_true z]; simp), fun ne => ok_standsM (by omega) k1.1 V m1 hj ⟨fun z => skip (by rw [othP, bI_0.mp z]; rfl), fun z => ⟨vin (by omega), ?_⟩⟩⟩
      have st := bI_n0.mp z
      have k2 := knd_2 (σ := σ) ali (stn_al st).1
      rw [R1.2.1 i j hi hj (fun y => ne y.symm)]
      refine ⟨fun z2 => ?_, fun z2 => skip ?_⟩
      · rw [decide_eq_true z2] at k2
        have pre : (stn σ j && (brd σ i j && !decide (j = i))) = true := by rw [st, ← k2, decide_eq_false ne]; rfl
        refine ⟨fun z3 => ok_worthOfM (by omega) k1.1 V (by rw [m1.i 91 3, V.m.1]) R1 hi hj ⟨fun z4 => skip (by rw [othP, bI_0.mp z3, decide_eq_false (Int32.not_le.mpr z4)]; simp), fun z4 => take (by rw [othP, pre, bI_0.mp z3, decide_eq_true (Int32.not_lt.mp z4)]; rfl)⟩, fun z3 => take (by rw [othP, pre, bI_n0.mp z3]; rfl)⟩
      · rw [decide_eq_false z2] at k2
        rw [othP, ← k2]; simp
  exact go (nD σ) 0 (by omega)
/-- the bound: what groups may be worth -/
def bdS (σ : Hp) (late : Bool) (i k : Nat) : Int32 := if (stn σ i && (stn σ k && !brd σ i k)) = true then (if 0 < pwv σ (wS σ late) (wS σ late) i k then pwv σ (wS σ late) (wS σ late) i k else 0) else 0
def bdR (σ : Hp) (late : Bool) (s : Int32) (i : Nat) : Nat → Int32
  | 0 => s
  | k + 1 => if i < k then bdR σ late s i k + bdS σ late i k else bdR σ late s i k
def bdA (σ : Hp) (late : Bool) : Nat → Int32
  | 0 => 0
  | i + 1 => bdR σ late (bdA σ late i) i (nD σ)
theorem bdR_lo {s : Int32} {i : Nat} : ∀ k, k ≤ i + 1 → bdR σ late s i k = s
  | 0, _ => rfl
  | k + 1, h => by
    rw [bdR, if_neg (by omega)]
    exact bdR_lo k (by omega)
theorem ok_boundC {F : Int32 → Hp → Prop} (hd : 6 ≤ d) (hS : Std h.2.2) (V : VS σ) (c : CS σ h) (hq : ∀ q, Kp scr h q → F (bdA σ late (nD σ)) q) : OKi d mX11_bound [.ref 0, .int (bI late)] h F X := by
  have hD := V.d.2
  refine enX11_bound _ hd hS (ok_sheet (by omega) hS ⟨SR_ok late, ok_layC (w := wS σ late) (SR_ok late) (by omega) hS V c.1 (c.mk V) (c.sr late) fun q1 f1 L1 => ?_⟩)
  have k1 := kc_R (SR_ok late) hS f1
  refine ok_standing (by omega) k1.1 V (c.kc k1).1 fun r hr => ?_
  have inner : ∀ (i : Nat) (s : Int32) (x7 : Int64), i < nD σ → (∀ k, i < k → k < nD σ → hb x7 k = (stn σ i && (stn σ k && !brd σ i k))) →
      (∀ q, Kp scr h q → LK σ (wS σ late) (SR late) q → E mX11_bound 5 0 0 28 [(0, .ref 0), (2, .ref (SR late)), (3, .long r), (5, .int (bdR σ late s i (nD σ))), (6, .int (nI (i + 1)))] [] q (Qi F) X) →
      ∀ (n k : Nat) (q : Hp), k + n = nD σ → i < k → Kp scr h q → LK σ (wS σ late) (SR late) q → E mX11_bound 5 0 0 82 [(0, .ref 0), (2, .ref (SR late)), (3, .long r), (5, .int (bdR σ late s i k)), (6, .int (nI i)), (7, .long x7), (9, .int (nI k))] [] q (Qi F) X := by
    intro i s x7 hi hx nx n
    induction n with
    | zero =>
      intro k q e hik kq L
      have : k = nD σ := by omega
      subst this
      refine sgX11_bound_82 _ (SR_ok late) _ _ _ _ _ (Nat.le_refl _) kq.1 ⟨fun _ => ?_, fun z => absurd (by rw [(c.kc kq).n]; exact Int32.le_refl _) z⟩
      rw [nI_1]
      exact nx q kq L
    | succ n ih =>
      intro k q e hik kq L
      have hk : k < nD σ := by omega
      have ck := c.kc kq
      have nx2 := fun q2 k2 L2 => ih (k + 1) q2 (by omega) (by omega) k2 L2
      refine sgX11_bound_82 _ (SR_ok late) _ _ _ _ _ (Nat.le_refl _) kq.1 ⟨fun z => absurd z (by rw [ck.n]; exact nI_ge hk (by omega)), fun _ => ok_has (by omega) kq.1 (by omega) ?_⟩
      rw [hx k hik hk, nI_1]
      refine ⟨fun z => ?_, fun z => ok_pairWorth (u := wS σ late) (SR_ok late) (SR_ok late) (by omega) kq.1 V ck.n (ck.mk V) L (ck.sr late) (wS_03 V late) (by omega) (by omega) fun q2 f2 L2 => ?_⟩
      · have := nx2 q kq L
        rw [bdR, if_pos hik, bdS, bI_0.mp z, if_neg (by decide), Int32.add_zero] at this
        exact this
      · have := nx2 q2 (kq.tr (f2.kc kq.1)) L2
        rw [bdR, if_pos hik, bdS, bI_n0.mp z, if_pos rfl] at this
        exact this
  have go : ∀ (n i : Nat) (q : Hp), i + n = nD σ → Kp scr h q → LK σ (wS σ late) (SR late) q → E mX11_bound 5 0 0 28 [(0, .ref 0), (2, .ref (SR late)), (3, .long r), (5, .int (bdA σ late i)), (6, .int (nI i))] [] q (Qi F) X := by
    intro n
    induction n with
    | zero =>
      intro i q e kq L
      have : i = nD σ := by omega
      subst this
      exact sgX11_bound_28 _ (SR_ok late) _ _ _ (Nat.le_refl _) kq.1 ⟨fun _ => hq q kq, fun z => absurd (by rw [(c.kc kq).n]; exact Int32.le_refl _) z⟩
    | succ n ih =>
      intro i q e kq L
      have hi : i < nD σ := by omega
      have ck := c.kc kq
      have nx := fun q2 k2 L2 => ih (i + 1) q2 (by omega) k2 L2
      refine sgX11_bound_28 _ (SR_ok late) _ _ _ (Nat.le_refl _) kq.1 ⟨fun z => absurd z (by rw [ck.n]; exact nI_ge hi (by omega)), fun _ => ok_has (by omega) kq.1 (by omega) ?_⟩
      rw [hr i]
      have e1 : nI i + (1 : Int32) = nI (i + 1) := nI_1 i
      have fin : ∀ x7, (∀ k, i < k → k < nD σ → hb x7 k = (stn σ i && (stn σ k && !brd σ i k))) → E mX11_bound 5 0 0 82 [(0, .ref 0), (2, .ref (SR late)), (3, .long r), (5, .int (bdA σ late i)), (6, .int (nI i)), (7, .long x7), (9, .int (nI i + 1))] [] q (Qi F) X := fun x7 hx => by
        have := inner i (bdA σ late i) x7 hi hx nx (nD σ - (i + 1)) (i + 1) q (by omega) (by omega) kq L
        rw [bdR_lo (i + 1) (Nat.le_refl _)] at this
        rw [e1]
        exact this
      refine ⟨fun z => fin 0 fun k _ _ => by rw [hb_0, bI_0.mp z]; rfl, fun z => ok_above (by omega) kq.1 (ok_barredFrom (by omega) kq.1 V ck.1 (stn_al (bI_n0.mp z)).1 fun r2 hr2 => fin _ fun k h1 h2 => ?_)⟩
      rw [hb_and, hb_and, hb_not (by omega), hr, hr2, hb_above (by omega), decide_eq_true (p := i < k ∧ k < 64) ⟨h1, by omega⟩, bI_n0.mp z, decide_eq_false (p := k = i) (by omega)]
      cases es : stn σ k
      · rfl
      · rw [(stn_al es).1]; simp
  exact go (nD σ) 0 q1 (by omega) k1 L1
theorem ok_boundM {F : Int32 → Hp → Prop} (hd : 8 ≤ d) (hS : Std h.2.2) (V : VS σ) (mc : MC σ h) (ak : h.1 91 36 = -1) (hq : ∀ q, Kp scm h q → F (bdA σ late (nD σ)) q) : OKi d mX12_bound [.ref 91, .int (bI late)] h F X := by
  have hD := V.d.2
  have kk : Kp scm h (hI h 91 0 0) := k0 (Kp.rf hS)
  refine enX12_bound _ hd hS (ok_layK (by omega) kk.1 V (mc.km kk) (by rw [hI_j (by decide)]; exact ak) fun q1 k1 e0 R1 => ?_)
  have kq := kk.tr k1
  have m1 := mc.km kq
  have e6 : q1.1 91 6 = nI (nD σ) := by rw [m1.i 91 6, V.d.1]
  have inner : ∀ (i : Nat) (s : Int32), i < nD σ → E mX12_bound 7 0 0 14 [(0, .ref 91), (2, .int (bdR σ late s i (nD σ))), (3, .int (nI (i + 1)))] [] q1 (Qi F) X →
      ∀ n k : Nat, k + n = nD σ → i < k → E mX12_bound 7 0 0 27 [(0, .ref 91), (2, .int (bdR σ late s i k)), (3, .int (nI i)), (4, .int (nI k))] [] q1 (Qi F) X := by
    intro i s hi nx n
    induction n with
    | zero =>
      intro k e hik
      have : k = nD σ := by omega
      subst this
      refine sgX12_bound_27 _ _ _ (Nat.le_refl _) k1.1 ⟨fun _ => ?_, fun z => absurd (by rw [e6]; exact Int32.le_refl _) z⟩
      rw [nI_1]; exact nx
    | succ n ih =>
      intro k e hik
      have hk : k < nD σ := by omega
      have nx2 := ih (k + 1) (by omega) (by omega)
      have ei : (60 : Int32) * nI i + nI k = nI (60 * i + k) := by rw [lit_nI 60, pk_mul, nI_add]
      have skip : (stn σ i && (stn σ k && !brd σ i k)) = false → E mX12_bound 7 0 0 27 [(0, .ref 91), (2, .int (bdR σ late s i k)), (3, .int (nI i)), (4, .int (nI (k + 1)))] [] q1 (Qi F) X := fun hz => by
        rw [bdR, if_pos hik, bdS, hz, if_neg (by decide), Int32.add_zero] at nx2
        exact nx2
      refine sgX12_bound_27 _ _ _ (Nat.le_refl _) k1.1 ⟨fun z => absurd z (by rw [e6]; exact nI_ge hk (by omega)), fun _ => ok_standsM (by omega) k1.1 V m1 hi ?_⟩
      rw [ei, nI_1, nI_clamp (by omega)]
      refine ⟨fun z => skip (by rw [bI_0.mp z]; rfl), fun z => ok_standsM (by omega) k1.1 V m1 hk ⟨fun z2 => skip (by rw [bI_0.mp z2]; simp), fun z2 => ⟨vin (by omega), ?_⟩⟩⟩
      have s1 := bI_n0.mp z
      have s2 := bI_n0.mp z2
      have k2 := knd_2 (σ := σ) (stn_al s1).1 (stn_al s2).1
      rw [R1.2.1 i k hi hk (by omega)]
      refine ⟨fun z3 => skip ?_, fun z3 => ok_worthOfM (by omega) k1.1 V (by rw [m1.i 91 3, V.m.1]) R1 hi hk ?_⟩
      · rw [decide_eq_true z3] at k2
        rw [← k2]; simp
      · rw [decide_eq_false z3] at k2
        rw [bdR, if_pos hik, bdS, s1, s2, ← k2] at nx2
        exact nx2
  have go : ∀ n i : Nat, i + n = nD σ → E mX12_bound 7 0 0 14 [(0, .ref 91), (2, .int (bdA σ late i)), (3, .int (nI i))] [] q1 (Qi F) X := by
    intro n
    induction n with
    | zero =>
      intro i e
      have : i = nD σ := by omega
      subst this
      exact sgX12_bound_14 _ _ (Nat.le_refl _) k1.1 ⟨fun _ => hq q1 kq, fun z => absurd (by rw [e6]; exact Int32.le_refl _) z⟩
    | succ n ih =>
      intro i e
      have hi : i < nD σ := by omega
      refine sgX12_bound_14 _ _ (Nat.le_refl _) k1.1 ⟨fun z => absurd z (by rw [e6]; exact nI_ge hi (by omega)), fun _ => ?_⟩
      have := inner i (bdA σ late i) hi (ih (i + 1) (by omega)) (nD σ - (i + 1)) (i + 1) (by omega) (by omega)
      rw [bdR_lo (i + 1) (Nat.le_refl _)] at this
      rw [nI_1]
      exact this
  exact go (nD σ) 0 (by omega)
end OPSE
