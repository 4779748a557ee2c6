/-! moves, changes -/
section MOVES
variable {σ h : Hp} {d : Nat} {X : String → Hp → Prop} {late : Bool} {a b m : Int32}
def farI (x : Int32) : Int32 := if x = 0 then 0 else if 10 ≤ x then (if 50 ≤ x then 3 else 2) else 1
def soonI (x : Int32) : Int32 := if 24 ≤ x then (if 168 ≤ x then (if 720 ≤ x then 3 else 2) else 1) else 0
def hrs (σ : Hp) (p : Nat × Nat) : Int32 := σ.1 99 p.2 - σ.1 99 p.1
def mvP (σ : Hp) (a b : Int32) (p : Nat × Nat) : Bool := decide (farI (dst σ (plc σ p.1) (plc σ p.2)) = a) && decide (soonI (hrs σ p) = b)
abbrev sL (σ : Hp) : List (Nat × Nat) := stL σ (nH σ)
def mvs (σ : Hp) (a b : Int32) : Nat := fb_ct (fun i => mvP σ a b (gd (sL σ) i)) (sL σ).length
theorem sL_len (V : VS σ) : (sL σ).length ≤ 120 := by
  have hH := V.h.2
  have h1 := nh_sum V
  have h2 : fb_sm (fun i => nh σ i - 1) (nH σ) ≤ fb_sm (nh σ) (nH σ) := fb_sm_le fun i _ => by omega
  have h3 := fb_sm_mono (nh σ) (nH σ) (20 - nH σ)
  rw [show nH σ + (20 - nH σ) = 20 by omega] at h3
  show (stL σ (nH σ)).length ≤ 120
  rw [stL_len]; omega
theorem sL_b (V : VS σ) {i : Nat} (hi : i < (sL σ).length) : (gd (sL σ) i).1 < nD σ ∧ (gd (sL σ) i).2 < nD σ := stL_b V (nH σ) i hi
theorem ok_farOf {F : Int32 → Hp → Prop} {x : Int32} (hd : 1 ≤ d) (hS : Std h.2.2) (hq : F (farI x) h) : OKi d mX9_farOf [.ref 57, .int x] h F X := by
  rw [farI] at hq
  exact enX9_farOf _ hd hS ⟨fun z => by rw [if_pos z] at hq; exact hq, fun z => ⟨fun z2 => ⟨fun z3 => by rw [if_neg z, if_pos z2, if_pos z3] at hq; exact hq, fun z3 => by rw [if_neg z, if_pos z2, if_neg z3] at hq; exact hq⟩, fun z2 => by rw [if_neg z, if_neg z2] at hq; exact hq⟩⟩
theorem ok_soonOf {F : Int32 → Hp → Prop} {x : Int32} (hd : 1 ≤ d) (hS : Std h.2.2) (hq : F (soonI x) h) : OKi d mX9_soonOf [.ref 57, .int x] h F X := by
  rw [soonI] at hq
  exact enX9_soonOf _ hd hS ⟨fun z => ⟨fun z2 => ⟨fun z3 => by rw [if_pos z, if_pos z2, if_pos z3] at hq; exact hq, fun z3 => by rw [if_pos z, if_pos z2, if_neg z3] at hq; exact hq⟩, fun z2 => by rw [if_pos z, if_neg z2] at hq; exact hq⟩, fun z => by rw [if_neg z] at hq; exact hq⟩
theorem ok_farOfM {F : Int32 → Hp → Prop} {x : Int32} (hd : 1 ≤ d) (hS : Std h.2.2) (hq : F (farI x) h) : OKi d mX12_farOf [.int x] h F X := by
  rw [farI] at hq
  exact enX12_farOf _ hd hS ⟨fun z => by rw [if_pos z] at hq; exact hq, fun z => ⟨fun z2 => ⟨fun z3 => by rw [if_neg z, if_pos z2, if_pos z3] at hq; exact hq, fun z3 => by rw [if_neg z, if_pos z2, if_neg z3] at hq; exact hq⟩, fun z2 => by rw [if_neg z, if_neg z2] at hq; exact hq⟩⟩
theorem ok_soonOfM {F : Int32 → Hp → Prop} {x : Int32} (hd : 1 ≤ d) (hS : Std h.2.2) (hq : F (soonI x) h) : OKi d mX12_soonOf [.int x] h F X := by
  rw [soonI] at hq
  exact enX12_soonOf _ hd hS ⟨fun z => ⟨fun z2 => ⟨fun z3 => by rw [if_pos z, if_pos z2, if_pos z3] at hq; exact hq, fun z3 => by rw [if_pos z, if_pos z2, if_neg z3] at hq; exact hq⟩, fun z2 => by rw [if_pos z, if_neg z2] at hq; exact hq⟩, fun z => by rw [if_neg z] at hq; exact hq⟩
theorem ok_hoursOf {F : Int32 → Hp → Prop} {i : Nat} (hd : 1 ≤ d) (hS : Std h.2.2) (V : VS σ) (c : CS σ h) (S : SLc (sL σ) h) (hi : i < (sL σ).length) (hq : F (hrs σ (gd (sL σ) i)) h) : OKi d mX9_hoursOf [.ref 57, .int (nI i)] h F X := by
  have hD := V.d.2
  have hL := sL_len V
  have bi := sL_b V hi
  have si := S.2 i hi
  refine enX9_hoursOf _ hd hS ?_
  rw [nI_clamp (by omega), si.1, si.2, nI_clamp (by omega), nI_clamp (by omega), (c.1.de bi.1).2.1, (c.1.de bi.2).2.1]
  exact ⟨vin (by omega), vin (by omega), vin (by omega), vin (by omega), hq⟩
theorem ok_movesOf {F : Int32 → Hp → Prop} (hd : 3 ≤ d) (hS : Std h.2.2) (V : VS σ) (c : CS σ h) (S : SLc (sL σ) h) (hq : F (nI (mvs σ a b)) h) : OKi d mX9_movesOf [.ref 57, .int a, .int b] h F X := by
  have hD := V.d.2
  have hP := V.p.2
  have hL := sL_len V
  have go : ∀ n i : Nat, i + n = (sL σ).length → E mX9_movesOf 2 0 0 5 [(0, .ref 57), (1, .int a), (2, .int b), (3, .int (nI (fb_ct (fun i => mvP σ a b (gd (sL σ) i)) i))), (4, .int (nI i))] [] h (Qi F) X := by
    intro n
    induction n with
    | zero =>
      intro i e
      have : i = (sL σ).length := by omega
      subst this
      exact sgX9_movesOf_5 _ _ _ _ (Nat.le_refl _) hS ⟨fun _ => hq, fun z => absurd (by rw [S.1]; exact Int32.le_refl _) z⟩
    | succ n ih =>
      intro i e
      have hi : i < (sL σ).length := by omega
      have bi := sL_b V hi
      have si := S.2 i hi
      have nx := ih (i + 1) (by omega)
      have p1 := (V.de bi.1).1
      have p2 := (V.de bi.2).1
      have skip : mvP σ a b (gd (sL σ) i) = false → E mX9_movesOf 2 0 0 5 [(0, .ref 57), (1, .int a), (2, .int b), (3, .int (nI (fb_ct (fun i => mvP σ a b (gd (sL σ) i)) i))), (4, .int (nI (i + 1)))] [] h (Qi F) X := fun hz => by
        rw [fb_ct_succ, hz, if_neg (by decide), Nat.add_zero] at nx
        exact nx
      have take : mvP σ a b (gd (sL σ) i) = true → E mX9_movesOf 2 0 0 5 [(0, .ref 57), (1, .int a), (2, .int b), (3, .int (nI (fb_ct (fun i => mvP σ a b (gd (sL σ) i)) i) + 1)), (4, .int (nI (i + 1)))] [] h (Qi F) X := fun hz => by
        rw [fb_ct_succ, hz, if_pos rfl, ← nI_1] at nx
        exact nx
      refine sgX9_movesOf_5 _ _ _ _ (Nat.le_refl _) hS ⟨fun z => absurd z (by rw [S.1]; exact nI_ge hi (by omega)), fun _ => ?_⟩
      rw [nI_clamp (by omega), si.1, si.2, nI_clamp (by omega), nI_clamp (by omega), (c.1.de bi.1).1, (c.1.de bi.2).1, p1.1, p2.1, nI_1 i]
      refine ⟨vin (by omega), vin (by omega), vin (by omega), vin (by omega), ok_distanceC (by omega) hS c.2.1 p1.2 p2.2 hP (ok_farOf (by omega) hS ⟨fun z => ok_hoursOf (by omega) hS V c S hi (ok_soonOf (by omega) hS ⟨fun z2 => take ?_, fun z2 => skip ?_⟩), fun z => skip ?_⟩)⟩
      · rw [mvP, decide_eq_true z, decide_eq_true z2]; rfl
      · rw [mvP, decide_eq_false z2, Bool.and_false]
      · rw [mvP, decide_eq_false z]; rfl
  exact enX9_movesOf _ _ hd hS (go _ 0 (Nat.zero_add _))
theorem ok_movesOfM {F : Int32 → Hp → Prop} (hd : 3 ≤ d) (hS : Std h.2.2) (V : VS σ) (mc : MC σ h) (S : SLm (sL σ) h) (hq : F (nI (mvs σ a b)) h) : OKi d mX12_movesOf [.ref 91, .int a, .int b] h F X := by
  have hD := V.d.2
  have hP := V.p.2
  have hL := sL_len V
  have go : ∀ n i : Nat, i + n = (sL σ).length → E mX12_movesOf 2 0 0 5 [(0, .ref 91), (1, .int a), (2, .int b), (3, .int (nI (fb_ct (fun i => mvP σ a b (gd (sL σ) i)) i))), (4, .int (nI i))] [] h (Qi F) X := by
    intro n
    induction n with
    | zero =>
      intro i e
      have : i = (sL σ).length := by omega
      subst this
      exact sgX12_movesOf_5 _ _ _ _ (Nat.le_refl _) hS ⟨fun _ => hq, fun z => absurd (by rw [S.1]; exact Int32.le_refl _) z⟩
    | succ n ih =>
      intro i e
      have hi : i < (sL σ).length := by omega
      have bi := sL_b V hi
      have si := S.2 i hi
      have nx := ih (i + 1) (by omega)
      have p1 := (V.de bi.1).1
      have p2 := (V.de bi.2).1
      have skip : mvP σ a b (gd (sL σ) i) = false → E mX12_movesOf 2 0 0 5 [(0, .ref 91), (1, .int a), (2, .int b), (3, .int (nI (fb_ct (fun i => mvP σ a b (gd (sL σ) i)) i) + 0)), (4, .int (nI (i + 1)))] [] h (Qi F) X := fun hz => by
        rw [fb_ct_succ, hz, if_neg (by decide), Nat.add_zero] at nx
        rw [Int32.add_zero]
        exact nx
      have take : mvP σ a b (gd (sL σ) i) = true → E mX12_movesOf 2 0 0 5 [(0, .ref 91), (1, .int a), (2, .int b), (3, .int (nI (fb_ct (fun i => mvP σ a b (gd (sL σ) i)) i) + 1)), (4, .int (nI (i + 1)))] [] h (Qi F) X := fun hz => by
        rw [fb_ct_succ, hz, if_pos rfl, ← nI_1] at nx
        exact nx
      refine sgX12_movesOf_5 _ _ _ _ (Nat.le_refl _) hS ⟨fun z => absurd z (by rw [S.1]; exact nI_ge hi (by omega)), fun _ => ?_⟩
      rw [nI_clamp (by omega), si.1, si.2, nI_clamp (by omega), nI_clamp (by omega), mc.i 98, mc.i 98, p1.1, p2.1, nI_1 i]
      refine ⟨vin (by omega), vin (by omega), vin (by omega), vin (by omega), ok_distanceM (by omega) hS mc (by omega) (by omega) (ok_farOfM (by omega) hS ⟨fun z => ?_, fun z => skip ?_⟩)⟩
      · rw [mc.i 99, mc.i 99]
        refine ⟨vin (by omega), vin (by omega), ok_soonOfM (by omega) hS ⟨fun z2 => take ?_, fun z2 => skip ?_⟩⟩
        · rw [mvP, decide_eq_true z, hrs, decide_eq_true z2]; rfl
        · rw [mvP, hrs, decide_eq_false z2, Bool.and_false]
      · rw [mvP, decide_eq_false z]; rfl
  exact enX12_movesOf _ _ hd hS (go _ 0 (Nat.zero_add _))
theorem ok_needSoon {F : Hp → Prop} {x : Int32} (hd : 7 ≤ d) (hS : Std h.2.2) (hq : isW x 0 3 = true → F h) (hx : isW x 0 3 = false → X iae h) : OKv d mX11_needSoon [.ref 0, .int x] h F X :=
  enX11_needSoon _ hd hS (ok_isW (a := 0) (b := 3) rfl rfl (by omega) hS ⟨fun z => hx (bI_0.mp z), fun z => hq (bI_n0.mp z)⟩)
theorem ok_gatherK {F : Hp → Prop} (hd : 3 ≤ d) (hS : Std h.2.2) (V : VS σ) (c : CS σ h) (hq : ∀ q, Kp scr h q → SLc (sL σ) q → F q) : OKv d mX9_gather [.ref 57] h F X :=
  ok_gather hd hS V c fun q f S => hq q (f.kc hS) S
theorem ok_layStepsK {F : Hp → Prop} (hd : 5 ≤ d) (hS : Std h.2.2) (V : VS σ) (mc : MC σ h) (hq : ∀ q, Kp scm h q → q.1 91 0 = h.1 91 0 → SLm (sL σ) q → F q) : OKv d mX12_laySteps [.ref 91] h F X :=
  ok_laySteps hd hS V mc fun q f S => hq q (f.km hS) (f.i 91 0) S
def cdMoves (a b : Int32) : Nat := if isW a 0 3 = true ∧ isW b 0 3 = true then 0 else 1
theorem ok_movesC {F : Int32 → Hp → Prop} (hd : 8 ≤ d) (hS : Std h.2.2) (V : VS σ) (c : CS σ h) (hq : CR h (cdMoves a b) (nI (mvs σ a b)) (t1 iae) F X) : OKi d mX11_moves [.ref 0, .int a, .int b] h F X := by
  have no : ¬ (isW a 0 3 = true ∧ isW b 0 3 = true) → X iae h := fun z => by
    have e : cdMoves a b = 1 := if_neg z
    rw [e] at hq
    exact hq.2 (by decide) h (Kp.rf hS)
  refine enX11_moves _ _ hd hS (ok_needSoon (by omega) hS (fun h1 => ok_needSoon (by omega) hS (fun h2 => ok_gatherK (by omega) hS V c fun q k S => ok_movesOf (by omega) k.1 V (c.kc k) S ?_) fun h2 => no fun z => absurd z.2 (by rw [h2]; decide)) fun h1 => no fun z => absurd z.1 (by rw [h1]; decide))
  have e : cdMoves a b = 0 := if_pos ⟨h1, h2⟩
  rw [e] at hq
  exact hq.1 rfl q k
theorem ok_movesM {F : Int32 → Hp → Prop} (hd : 6 ≤ d) (hS : Std h.2.2) (V : VS σ) (mc : MC σ h) (hq : MR h (cdMoves a b) (nI (mvs σ a b)) F) : OKi d mX12_moves [.ref 91, .int a, .int b] h F X := by
  have kk : Kp scm h (hI h 91 0 0) := k0 (Kp.rf hS)
  have no : ¬ (isW a 0 3 = true ∧ isW b 0 3 = true) → cdMoves a b = 1 := fun z => if_neg z
  refine enX12_moves _ _ hd hS (ok_isWM (a := 0) (b := 3) rfl rfl (by omega) kk.1 ⟨fun z => ok_failsM (n := 1) (by omega) kk (no fun y => absurd y.1 (by rw [bI_0.mp z]; decide)) (by decide) hq, fun z => ok_isWM (a := 0) (b := 3) rfl rfl (by omega) kk.1 ⟨fun z2 => ok_failsM (n := 1) (by omega) kk (no fun y => absurd y.2 (by rw [bI_0.mp z2]; decide)) (by decide) hq, fun z2 => ok_layStepsK (by omega) kk.1 V (mc.km kk) fun q k e0 S => ok_movesOfM (by omega) k.1 V ((mc.km kk).km k) S ?_⟩⟩)
  have e : cdMoves a b = 0 := if_pos ⟨bI_n0.mp z, bI_n0.mp z2⟩
  rw [e] at hq
  exact hq q _ (kk.tr k) (by rw [e0, hI_k]; rfl) fun _ => rfl
/-- changes of a mark -/
def chP (σ : Hp) (late : Bool) (m : Nat) (a b : Int32) (i : Nat) : Bool := decide (wS σ late (gd (sL σ) i).1 m = a) && decide (wS σ late (gd (sL σ) i).2 m = b)
def vChanges (σ : Hp) (late : Bool) (m a b : Int32) : Int32 := nI (fb_ct (chP σ late m.toNatClampNeg a b) (sL σ).length)
def cdChanges (σ : Hp) (m a b : Int32) : Nat := if isN m (nM σ) = true then (if lkd a = true ∧ lkd b = true then 0 else 2) else 1
theorem isW_12 (x : Int32) : isW x 1 2 = lkd x := by
  rw [isW, lkd, ← Bool.decide_and, ← Bool.decide_or]
  refine decide_eq_decide.mpr ?_
  rw [fa_le, fa_le, fa_eq, fa_eq]
  have e1 : (1 : Int32).toInt = 1 := by decide
  have e2 : (2 : Int32).toInt = 2 := by decide
  omega
theorem ok_changesOf {F : Int32 → Hp → Prop} {k : Nat} (hd : 3 ≤ d) (hS : Std h.2.2) (V : VS σ) (c : CS σ h) (S : SLc (sL σ) h) (hk : k < nM σ) (hq : F (nI (fb_ct (chP σ late k a b) (sL σ).length)) h) : OKi d mX9_changesOf [.ref 57, .ref (SR late), .int (nI k), .int a, .int b] h F X := by
  have hD := V.d.2
  have hM := V.m.2
  have hL := sL_len V
  have go : ∀ n i : Nat, i + n = (sL σ).length → E mX9_changesOf 2 0 0 6 [(0, .ref 57), (1, .ref (SR late)), (2, .int (nI k)), (3, .int a), (4, .int b), (5, .int (nI (fb_ct (chP σ late k a b) i))), (6, .int (nI i))] [] h (Qi F) X := by
    intro n
    induction n with
    | zero =>
      intro i e
      have : i = (sL σ).length := by omega
      subst this
      exact sgX9_changesOf_6 (SR_ok late) _ _ _ _ _ (Nat.le_refl _) hS ⟨fun _ => hq, fun z => absurd (by rw [S.1]; exact Int32.le_refl _) z⟩
    | succ n ih =>
      intro i e
      have hi : i < (sL σ).length := by omega
      have bi := sL_b V hi
      have si := S.2 i hi
      have nx := ih (i + 1) (by omega)
      have skip : chP σ late k a b i = false → E mX9_changesOf 2 0 0 6 [(0, .ref 57), (1, .ref (SR late)), (2, .int (nI k)), (3, .int a), (4, .int b), (5, .int (nI (fb_ct (chP σ late k a b) i))), (6, .int (nI (i + 1)))] [] h (Qi F) X := fun hz => by
        rw [fb_ct_succ, hz, if_neg (by decide), Nat.add_zero] at nx
        exact nx
      have take : chP σ late k a b i = true → E mX9_changesOf 2 0 0 6 [(0, .ref 57), (1, .ref (SR late)), (2, .int (nI k)), (3, .int a), (4, .int b), (5, .int (nI (fb_ct (chP σ late k a b) i) + 1)), (6, .int (nI (i + 1)))] [] h (Qi F) X := fun hz => by
        rw [fb_ct_succ, hz, if_pos rfl, ← nI_1] at nx
        exact nx
      refine sgX9_changesOf_6 (SR_ok late) _ _ _ _ _ (Nat.le_refl _) hS ⟨fun z => absurd z (by rw [S.1]; exact nI_ge hi (by omega)), fun _ => ?_⟩
      rw [nI_clamp (by omega), si.1, nI_1 i]
      refine ⟨vin (by omega), ok_stateOf (SR_ok late) (by omega) hS (c.sr late) (by omega) (by omega) (wS_03 V late _ _) ⟨fun z => ⟨vin (by omega), ?_⟩, fun z => skip ?_⟩⟩
      · rw [si.2]
        refine ok_stateOf (SR_ok late) (by omega) hS (c.sr late) (by omega) (by omega) (wS_03 V late _ _) ⟨fun z2 => take ?_, fun z2 => skip ?_⟩
        · rw [chP, decide_eq_true z, decide_eq_true z2]; rfl
        · rw [chP, decide_eq_false z2, Bool.and_false]
      · rw [chP, decide_eq_false z]; rfl
  exact enX9_changesOf (SR_ok late) _ _ _ hd hS (go _ 0 (Nat.zero_add _))
theorem ok_changesC {F : Int32 → Hp → Prop} (hd : 8 ≤ d) (hS : Std h.2.2) (V : VS σ) (c : CS σ h) (hq : CR h (cdChanges σ m a b) (vChanges σ late m a b) (t2 nse iae) F X) : OKi d mX11_changes [.ref 0, .int m, .int a, .int b, .int (bI late)] h F X := by
  have hM := V.m.2
  refine enX11_changes _ _ _ _ hd hS (ok_needMark (by omega) hS (c.mk V) (fun h1 => ?_) fun h1 => ?_)
  · have no : ¬ (lkd a = true ∧ lkd b = true) → X iae h := fun z => by
      have e : cdChanges σ m a b = 2 := by rw [cdChanges, h1, if_pos rfl, if_neg z]
      rw [e] at hq
      exact hq.2 (by decide) h (Kp.rf hS)
    refine ok_isW (a := 1) (b := 2) rfl rfl (by omega) hS ?_
    rw [isW_12]
    refine ⟨fun z => no fun y => absurd y.1 (by rw [bI_0.mp z]; decide), fun z => ok_isW (a := 1) (b := 2) rfl rfl (by omega) hS ?_⟩
    rw [isW_12]
    refine ⟨fun z2 => no fun y => absurd y.2 (by rw [bI_0.mp z2]; decide), fun z2 => ok_gatherK (by omega) hS V c fun q k S => ok_sheet (by omega) k.1 ⟨SR_ok late, ?_⟩⟩
    have e : cdChanges σ m a b = 0 := by rw [cdChanges, h1, if_pos rfl, if_pos ⟨bI_n0.mp z, bI_n0.mp z2⟩]
    rw [e] at hq
    obtain ⟨i, hi, em⟩ := isN_t (by omega) h1
    subst em
    refine ok_changesOf (by omega) k.1 V (c.kc k) S hi ?_
    have := hq.1 rfl q k
    rw [vChanges, nI_clamp (by omega)] at this
    exact this
  · have e : cdChanges σ m a b = 1 := by rw [cdChanges, h1]; rfl
    rw [e] at hq
    exact hq.2 (by decide) h (Kp.rf hS)
theorem ok_changesM {F : Int32 → Hp → Prop} (hd : 6 ≤ d) (hS : Std h.2.2) (V : VS σ) (mc : MC σ h) (ak : h.1 91 36 = -1) (hq : MR h (cdChanges σ m a b) (vChanges σ late m a b) F) : OKi d mX12_changes [.ref 91, .int m, .int a, .int b, .int (bI late)] h F X := by
  have hD := V.d.2
  have hM := V.m.2
  have hL := sL_len V
  have kk : Kp scm h (hI h 91 0 0) := k0 (Kp.rf hS)
  refine enX12_changes _ _ _ _ hd hS (ok_isMarkM (by omega) kk.1 V (mc.km kk) ⟨fun z => ok_failsM (n := 1) (by omega) kk (by rw [cdChanges, bI_0.mp z]; rfl) (by decide) hq, fun z => ?_⟩)
  have h1 := bI_n0.mp z
  have no : ¬ (lkd a = true ∧ lkd b = true) → cdChanges σ m a b = 2 := fun z => by rw [cdChanges, h1, if_pos rfl, if_neg z]
  refine ok_isLookedM (by omega) kk.1 ⟨fun z2 => ok_failsM (n := 2) (by omega) kk (no fun y => absurd y.1 (by rw [bI_0.mp z2]; decide)) (by decide) hq, fun z2 => ok_isLookedM (by omega) kk.1 ⟨fun z3 => ok_failsM (n := 2) (by omega) kk (no fun y => absurd y.2 (by rw [bI_0.mp z3]; decide)) (by decide) hq, fun z3 => ?_⟩⟩
  have e : cdChanges σ m a b = 0 := by rw [cdChanges, h1, if_pos rfl, if_pos ⟨bI_n0.mp z2, bI_n0.mp z3⟩]
  rw [e] at hq
  obtain ⟨k, hk, em⟩ := isN_t (by omega) h1
  subst em
  refine ok_layStates (w := wS σ late) (by omega) kk.1 V (mc.km kk) (asked_no (by rw [hI_j (by decide)]; exact ak)) fun q1 f1 ms1 _ => ?_
  have k1 := kk.tr (f1.km kk.1)
  refine ok_laySteps (by omega) k1.1 V (mc.km k1) fun q2 f2 S => ?_
  have S : SLm (sL σ) q2 := S
  have k2 := k1.tr (f2.km k1.1)
  have ms2 : MS σ (wS σ late) q2 := ms1.fr f2 fun _ => rfl
  have e0 : q2.1 91 0 = 0 := by rw [f2.i 91 0, f1.i 91 0, hI_k]
  have fin := hq q2 (nI (fb_ct (chP σ late k a b) (sL σ).length)) k2 e0 fun _ => by rw [vChanges, nI_clamp (by omega)]
  have go : ∀ n i : Nat, i + n = (sL σ).length → E mX12_changes 5 0 0 55 [(0, .ref 91), (1, .int (nI k)), (2, .int a), (3, .int b), (5, .int (nI (fb_ct (chP σ late k a b) i))), (6, .int (nI i))] [] q2 (Qi F) X := by
    intro n
    induction n with
    | zero =>
      intro i e
      have : i = (sL σ).length := by omega
      subst this
      exact sgX12_changes_55 _ _ _ _ _ (Nat.le_refl _) k2.1 ⟨fun _ => fin, fun z => absurd (by rw [S.1]; exact Int32.le_refl _) z⟩
    | succ n ih =>
      intro i e
      have hi : i < (sL σ).length := by omega
      have bi := sL_b V hi
      have si := S.2 i hi
      have nx := ih (i + 1) (by omega)
      have skip : chP σ late k a b i = false → E mX12_changes 5 0 0 55 [(0, .ref 91), (1, .int (nI k)), (2, .int a), (3, .int b), (5, .int (nI (fb_ct (chP σ late k a b) i) + 0)), (6, .int (nI (i + 1)))] [] q2 (Qi F) X := fun hz => by
        rw [fb_ct_succ, hz, if_neg (by decide), Nat.add_zero] at nx
        rw [Int32.add_zero]
        exact nx
      have take : chP σ late k a b i = true → E mX12_changes 5 0 0 55 [(0, .ref 91), (1, .int (nI k)), (2, .int a), (3, .int b), (5, .int (nI (fb_ct (chP σ late k a b) i) + 1)), (6, .int (nI (i + 1)))] [] q2 (Qi F) X := fun hz => by
        rw [fb_ct_succ, hz, if_pos rfl, ← nI_1] at nx
        exact nx
      have ix : ∀ j : Nat, (16 : Int32) * nI j + nI k = nI (16 * j + k) := fun j => by rw [lit_nI 16, pk_mul, nI_add]
      refine sgX12_changes_55 _ _ _ _ _ (Nat.le_refl _) k2.1 ⟨fun z => absurd z (by rw [S.1]; exact nI_ge hi (by omega)), fun _ => ?_⟩
      rw [nI_clamp (by omega), si.1, si.2, ix, ix, nI_clamp (by omega), nI_clamp (by omega), ms2 _ _ bi.1 (by omega), ms2 _ _ bi.2 (by omega), nI_1 i]
      refine ⟨vin (by omega), vin (by omega), fun z => ⟨vin (by omega), vin (by omega), fun z2 => take ?_, fun z2 => skip ?_⟩, fun z => skip ?_⟩
      · rw [chP, decide_eq_true z, decide_eq_true z2]; rfl
      · rw [chP, decide_eq_false z2, Bool.and_false]
      · rw [chP, decide_eq_false z]; rfl
  exact go _ 0 (Nat.zero_add _)
end MOVES
