/-! parent, worth, by, joined -/
section OPSD
variable {σ h : Hp} {d : Nat} {X : String → Hp → Prop} {late : Bool} {a b m : Int32}
def cdParent (σ : Hp) (m : Int32) : Nat := if isN m (nM σ) = true then 0 else 1
def vParent (σ : Hp) (late : Bool) (m : Int32) : Int32 := prL σ late m.toNatClampNeg
theorem ok_parentC {F : Int32 → Hp → Prop} (hd : 8 ≤ d) (hS : Std h.2.2) (V : VS σ) (c : CS σ h) (hq : CR h (cdParent σ m) (vParent σ late m) (t1 nse) F X) : OKi d mX11_parent [.ref 0, .int m, .int (bI late)] h F X := by
  have hM := V.m.2
  refine enX11_parent _ _ hd hS (ok_needMark (by omega) hS (c.mk V) (fun h1 => ok_layS (by omega) hS V c fun q1 k1 L1 => ?_) fun h1 => ?_)
  · have e : cdParent σ m = 0 := by rw [cdParent, h1]; rfl
    rw [e] at hq
    obtain ⟨i, hi, em⟩ := isN_t (by omega) h1
    have := hq.1 rfl q1 k1
    subst em
    rw [vParent, nI_clamp (by omega)] at this
    rw [nI_clamp (by omega), L1.2.2.2.1 i hi]
    exact ⟨vin (by omega), this⟩
  · have e : cdParent σ m = 1 := by rw [cdParent, h1]; rfl
    rw [e] at hq
    exact hq.2 (by decide) h (Kp.rf hS)
theorem ok_parentM {F : Int32 → Hp → Prop} (hd : 8 ≤ d) (hS : Std h.2.2) (V : VS σ) (mc : MC σ h) (ak : h.1 91 36 = -1) (hq : MR h (cdParent σ m) (vParent σ late m) F) : OKi d mX12_parent [.ref 91, .int m, .int (bI late)] h F X := by
  have hM := V.m.2
  have kk : Kp scm h (hI h 91 0 0) := k0 (Kp.rf hS)
  refine enX12_parent _ _ hd hS (ok_isMarkM (by omega) kk.1 V (mc.km kk) ⟨fun z => ok_failsM (n := 1) (by omega) kk (by rw [cdParent, bI_0.mp z]; rfl) (by decide) hq, fun z => ?_⟩)
  have h1 := bI_n0.mp z
  have e : cdParent σ m = 0 := by rw [cdParent, h1]; rfl
  rw [e] at hq
  obtain ⟨i, hi, em⟩ := isN_t (by omega) h1
  subst em
  refine ok_layK (by omega) kk.1 V (mc.km kk) (by rw [hI_j (by decide)]; exact ak) fun q1 k1 e0 R1 => ⟨vin (by omega), hq q1 _ (kk.tr k1) (by rw [e0, hI_k]; rfl) fun _ => ?_⟩
  rw [vParent, nI_clamp (by omega), (R1.2.2.1 i hi).1]; rfl
def cdTwo (σ : Hp) (a b : Int32) : Nat := if isD σ a = true ∧ isD σ b = true then (if a = b then 2 else 0) else 1
def vWorth (σ : Hp) (late : Bool) (a b : Int32) : Int32 := pwv σ (wS σ late) (wS σ late) a.toNatClampNeg b.toNatClampNeg
theorem ok_worthC {F : Int32 → Hp → Prop} (hd : 9 ≤ d) (hS : Std h.2.2) (V : VS σ) (c : CS σ h) (hq : CR h (cdTwo σ a b) (vWorth σ late a b) (t2 nse iae) F X) : OKi d mX11_worth [.ref 0, .int a, .int b, .int (bI late)] h F X := by
  have hD := V.d.2
  refine enX11_worth _ _ _ hd hS (ok_needTwo (by omega) hS V c.1 (fun h1 h2 z => ?_) (fun z => ?_) fun h1 h2 z => ?_)
  · have e : cdTwo σ a b = 0 := by rw [cdTwo, if_pos ⟨h1, h2⟩, if_neg z]
    rw [e] at hq
    obtain ⟨i, _, em, hi⟩ := isD_t V h1
    obtain ⟨j, _, eo, hj⟩ := isD_t V h2
    subst em eo
    refine ok_sheet (by omega) hS ⟨SR_ok late, ok_layC (SR_ok late) (by omega) hS V c.1 (c.mk V) (c.sr late) fun q1 f1 L1 => ?_⟩
    have k1 := kc_R (SR_ok late) hS f1
    have c1 := c.kc k1
    refine ok_pairWorth (u := wS σ late) (SR_ok late) (SR_ok late) (by omega) k1.1 V c1.n (c1.mk V) L1 (c1.sr late) (wS_03 V late) (by omega) (by omega) fun q2 f2 L2 => ?_
    have := hq.1 rfl q2 (k1.tr (f2.kc k1.1))
    rw [vWorth, nI_clamp (by omega), nI_clamp (by omega)] at this
    exact this
  · have e : cdTwo σ a b = 1 := by rw [cdTwo, if_neg z]
    rw [e] at hq
    exact hq.2 (by decide) h (Kp.rf hS)
  · have e : cdTwo σ a b = 2 := by rw [cdTwo, if_pos ⟨h1, h2⟩, if_pos z]
    rw [e] at hq
    exact hq.2 (by decide) h (Kp.rf hS)
theorem ok_worthM {F : Int32 → Hp → Prop} (hd : 8 ≤ d) (hS : Std h.2.2) (V : VS σ) (mc : MC σ h) (ak : h.1 91 36 = -1) (hq : MR h (cdTwo σ a b) (vWorth σ late a b) F) : OKi d mX12_worth [.ref 91, .int a, .int b, .int (bI late)] h F X := by
  have hD := V.d.2
  have kk : Kp scm h (hI h 91 0 0) := k0 (Kp.rf hS)
  refine enX12_worth _ _ _ hd hS (ok_isDeedM (by omega) kk.1 V (mc.km kk) ⟨fun z => ok_failsM (n := 1) (by omega) kk (by rw [cdTwo, if_neg (fun y => absurd y.1 (by rw [bI_0.mp z]; decide))]) (by decide) hq, fun z => ok_isDeedM (by omega) kk.1 V (mc.km kk) ⟨fun z2 => ok_failsM (n := 1) (by omega) kk (by rw [cdTwo, if_neg (fun y => absurd y.2 (by rw [bI_0.mp z2]; decide))]) (by decide) hq, fun z2 => ⟨fun z3 => ok_failsM (n := 2) (by omega) kk (by rw [cdTwo, if_pos ⟨bI_n0.mp z, bI_n0.mp z2⟩, if_pos z3]) (by decide) hq, fun z3 => ?_⟩⟩⟩)
  have h1 := bI_n0.mp z
  have h2 := bI_n0.mp z2
  have e : cdTwo σ a b = 0 := by rw [cdTwo, if_pos ⟨h1, h2⟩, if_neg z3]
  rw [e] at hq
  obtain ⟨i, _, em, hi⟩ := isD_t V h1
  obtain ⟨j, _, eo, hj⟩ := isD_t V h2
  subst em eo
  refine ok_layK (by omega) kk.1 V (mc.km kk) (by rw [hI_j (by decide)]; exact ak) fun q1 k1 e0 R1 => ?_
  refine ok_worthOfM (by omega) k1.1 V (by rw [((mc.km kk).km k1).i 91 3, V.m.1]) R1 hi hj (hq q1 _ (kk.tr k1) (by rw [e0, hI_k]; rfl) fun _ => ?_)
  rw [vWorth, nI_clamp (by omega), nI_clamp (by omega)]
def cdBy (σ : Hp) (a b m : Int32) : Nat := if isD σ a = true ∧ isD σ b = true ∧ isN m (nM σ) = true then (if a = b then 2 else 0) else 1
def vBy (σ : Hp) (late : Bool) (a b m : Int32) : Int32 := mwv σ (wS σ late) (prL σ late) (wS σ late) m.toNatClampNeg a.toNatClampNeg b.toNatClampNeg
theorem ok_byC {F : Int32 → Hp → Prop} (hd : 8 ≤ d) (hS : Std h.2.2) (V : VS σ) (c : CS σ h) (hq : CR h (cdBy σ a b m) (vBy σ late a b m) (t2 nse iae) F X) : OKi d mX11_by [.ref 0, .int a, .int b, .int m, .int (bI late)] h F X := by
  have hD := V.d.2
  have hM := V.m.2
  have no : ¬ (isD σ a = true ∧ isD σ b = true ∧ isN m (nM σ) = true) → X nse h := fun z => by
    have e : cdBy σ a b m = 1 := by rw [cdBy, if_neg z]
    rw [e] at hq
    exact hq.2 (by decide) h (Kp.rf hS)
  refine enX11_by _ _ _ _ hd hS (ok_needDeed (by omega) hS V c.1 (fun h1 => ok_needDeed (by omega) hS V c.1 (fun h2 => ok_needMark (by omega) hS (c.mk V) (fun h3 => ⟨fun z => ?_, fun z => ?_⟩) fun h3 => no fun y => absurd y.2.2 (by rw [h3]; decide)) fun h2 => no fun y => absurd y.2.1 (by rw [h2]; decide)) fun h1 => no fun y => absurd y.1 (by rw [h1]; decide))
  · have e : cdBy σ a b m = 2 := by rw [cdBy, if_pos ⟨h1, h2, h3⟩, if_pos z]
    rw [e] at hq
    exact hq.2 (by decide) h (Kp.rf hS)
  · have e : cdBy σ a b m = 0 := by rw [cdBy, if_pos ⟨h1, h2, h3⟩, if_neg z]
    rw [e] at hq
    obtain ⟨i, _, em, hi⟩ := isD_t V h1
    obtain ⟨j, _, eo, hj⟩ := isD_t V h2
    obtain ⟨k, hk, ek⟩ := isN_t (by omega) h3
    subst em eo ek
    refine ok_sheet (by omega) hS ⟨SR_ok late, ok_layC (SR_ok late) (by omega) hS V c.1 (c.mk V) (c.sr late) fun q1 f1 L1 => ?_⟩
    have k1 := kc_R (SR_ok late) hS f1
    have c1 := c.kc k1
    refine ok_markWorth (u := wS σ late) (SR_ok late) (SR_ok late) (by omega) k1.1 V c1.n L1 (c1.sr late) (wS_03 V late) hk (by omega) (by omega) fun q2 f2 L2 => ?_
    have := hq.1 rfl q2 (k1.tr (f2.kc k1.1))
    rw [vBy, nI_clamp (by omega), nI_clamp (by omega), nI_clamp (by omega)] at this
    exact this
theorem ok_byM {F : Int32 → Hp → Prop} (hd : 8 ≤ d) (hS : Std h.2.2) (V : VS σ) (mc : MC σ h) (ak : h.1 91 36 = -1) (hq : MR h (cdBy σ a b m) (vBy σ late a b m) F) : OKi d mX12_by [.ref 91, .int a, .int b, .int m, .int (bI late)] h F X := by
  have hD := V.d.2
  have hM := V.m.2
  have kk : Kp scm h (hI h 91 0 0) := k0 (Kp.rf hS)
  have no : ∀ {P : Prop}, ¬ (isD σ a = true ∧ isD σ b = true ∧ isN m (nM σ) = true) → cdBy σ a b m = 1 := fun z => by rw [cdBy, if_neg z]
  refine enX12_by _ _ _ _ hd hS (ok_isDeedM (by omega) kk.1 V (mc.km kk) ⟨fun z => ok_failsM (n := 1) (by omega) kk (no (P := True) fun y => absurd y.1 (by rw [bI_0.mp z]; decide)) (by decide) hq, fun z => ok_isDeedM (by omega) kk.1 V (mc.km kk) ⟨fun z2 => ok_failsM (n := 1) (by omega) kk (no (P := True) fun y => absurd y.2.1 (by rw [bI_0.mp z2]; decide)) (by decide) hq, fun z2 => ok_isMarkM (by omega) kk.1 V (mc.km kk) ⟨fun z3 => ok_failsM (n := 1) (by omega) kk (no (P := True) fun y => absurd y.2.2 (by rw [bI_0.mp z3]; decide)) (by decide) hq, fun z3 => ⟨fun z4 => ok_failsM (n := 2) (by omega) kk (by rw [cdBy, if_pos ⟨bI_n0.mp z, bI_n0.mp z2, bI_n0.mp z3⟩, if_pos z4]) (by decide) hq, fun z4 => ?_⟩⟩⟩⟩)
  have h1 := bI_n0.mp z
  have h2 := bI_n0.mp z2
  have h3 := bI_n0.mp z3
  have e : cdBy σ a b m = 0 := by rw [cdBy, if_pos ⟨h1, h2, h3⟩, if_neg z4]
  rw [e] at hq
  obtain ⟨i, _, em, hi⟩ := isD_t V h1
  obtain ⟨j, _, eo, hj⟩ := isD_t V h2
  obtain ⟨k, hk, ek⟩ := isN_t (by omega) h3
  subst em eo ek
  refine ok_layK (by omega) kk.1 V (mc.km kk) (by rw [hI_j (by decide)]; exact ak) fun q1 k1 e0 R1 => ?_
  refine ok_worthBy (u := wS σ late) (par := prT σ (wS σ late)) ⟨sa_112, by decide⟩ ⟨sa_112, by decide⟩ (by omega) k1.1 V R1.2.2.1 R1.2.2.2.2 (fun x hx => R1.1 i x hi (by omega)) (fun x hx => R1.1 j x hj (by omega)) hk (by omega) (by omega) (hq q1 _ (kk.tr k1) (by rw [e0, hI_k]; rfl) fun _ => ?_)
  rw [vBy, nI_clamp (by omega), nI_clamp (by omega), nI_clamp (by omega)]; rfl
/-- a deed that is, and stands -/
def cdUn (σ : Hp) (a : Int32) : Nat := if isD σ a = true then (if dbt σ a.toNatClampNeg = true then 2 else 0) else 1
def vJoined (σ : Hp) (late : Bool) (a : Int32) : Int32 := nI ((grpS σ (wS σ late)).1 a.toNatClampNeg)
theorem un_stn {i : Nat} (h1 : al σ i = true) (h2 : dbt σ i = false) : stn σ i = true := by rw [stn, h1, h2]; rfl
theorem ok_joinedC {F : Int32 → Hp → Prop} (hd : 8 ≤ d) (hS : Std h.2.2) (V : VS σ) (c : CS σ h) (hq : CR h (cdUn σ a) (vJoined σ late a) (t2 nse ise) F X) : OKi d mX11_joined [.ref 0, .int a, .int (bI late)] h F X := by
  have hD := V.d.2
  refine enX11_joined _ _ hd hS (ok_needDeed (by omega) hS V c.1 (fun h1 => ?_) fun h1 => ?_)
  · obtain ⟨i, ali, em, hi⟩ := isD_t V h1
    subst em
    refine ok_needUndoubted (by omega) hS V c.1 hi (fun h2 => ?_) fun h2 => ?_
    · have e : cdUn σ (nI i) = 0 := by rw [cdUn, h1, nI_clamp (by omega), h2]; rfl
      rw [e] at hq
      refine ok_join (by omega) hS V c fun q1 k1 G1 => ok_headOf (by omega) k1.1 V (grpS_J V _) G1 (un_stn ali h2) ?_
      have := hq.1 rfl q1 k1
      rw [vJoined, nI_clamp (by omega)] at this
      exact this
    · have e : cdUn σ (nI i) = 2 := by rw [cdUn, h1, nI_clamp (by omega), h2]; rfl
      rw [e] at hq
      exact hq.2 (by decide) h (Kp.rf hS)
  · have e : cdUn σ a = 1 := by rw [cdUn, h1]; rfl
    rw [e] at hq
    exact hq.2 (by decide) h (Kp.rf hS)
theorem ok_joinedM {F : Int32 → Hp → Prop} (hd : 9 ≤ d) (hS : Std h.2.2) (V : VS σ) (mc : MC σ h) (ak : h.1 91 36 = -1) (hq : MR h (cdUn σ a) (vJoined σ late a) F) : OKi d mX12_joined [.ref 91, .int a, .int (bI late)] h F X := by
  have hD := V.d.2
  have s27 : ∀ n : Nat, n ≠ 0 → n < 3 → cdUn σ a = n → E mX12_joined 8 0 0 27 [(0, .ref 91), (1, .int a), (2, .int (bI late))] [.int (nI n), .ref 91] h (Qi F) X := fun n h1 h2 e =>
    sgX12_joined_27 _ _ _ (Nat.le_refl _) hS ⟨fun z => absurd z (nI_ge (a := 0) (by omega) (by omega)), fun _ => hq _ 0 (k0 (Kp.rf hS)) (by rw [hI_k, e]) fun z => absurd (e.symm.trans z) h1⟩
  refine enX12_joined _ _ hd hS (ok_isDeedM (by omega) hS V mc ⟨fun z => s27 1 (by decide) (by decide) (by rw [cdUn, bI_0.mp z]; rfl), fun z => ?_⟩)
  have h1 := bI_n0.mp z
  obtain ⟨i, ali, em, hi⟩ := isD_t V h1
  subst em
  rw [nI_clamp (by omega), mc.i 104 i]
  refine ⟨vin (by omega), fun z2 => ?_, fun z2 => s27 2 (by decide) (by decide) ?_⟩
  · have h2 : dbt σ i = false := by rw [dbt, decide_eq_true z2]; rfl
    have e : cdUn σ (nI i) = 0 := by rw [cdUn, h1, nI_clamp (by omega), h2]; rfl
    rw [e] at hq
    have kk : Kp scm h (hI h 91 0 0) := k0 (Kp.rf hS)
    refine sgX12_joined_27 _ _ _ (Nat.le_refl _) hS ⟨fun _ => ok_joins (by omega) kk.1 V (mc.km kk) (by rw [hI_j (by decide)]; exact ak) fun q1 k1 e0 G1 => ?_, fun y => absurd (Int32.le_refl _) y⟩
    rw [nI_clamp (by omega), G1.1 i hi, gJ, un_stn ali h2, if_pos rfl]
    refine ⟨vin (by omega), hq q1 _ (kk.tr k1) (by rw [e0, hI_k]; rfl) fun _ => ?_⟩
    rw [vJoined, nI_clamp (by omega)]
  · have h2 : dbt σ i = true := by rw [dbt, decide_eq_false z2]; rfl
    rw [cdUn, h1, nI_clamp (by omega), h2]; rfl
end OPSD
