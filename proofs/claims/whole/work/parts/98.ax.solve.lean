/-! solve, bar, are, link, right, forget, window -/
section OPSN
variable {σ h : Hp} {d : Nat} {X : String → Hp → Prop} {F : Int32 → Hp → Prop} {G : Hp → Prop} {x y s a b m o : Int32} {late is : Bool}
def CWv (h σ' : Hp) (cd : Nat) (tb : Nat → String) (G : Hp → Prop) (X : String → Hp → Prop) : Prop := (cd = 0 → ∀ q, KL h q → CS σ' q → G q) ∧ (cd ≠ 0 → X (tb cd) h)
def MWv (h σ' : Hp) (cd : Nat) (G : Hp → Prop) : Prop := ∀ q, KM h q → MA σ' q → q.1 91 0 = nI cd → G q
def okHnd (σ : Hp) (x y : Int32) : Prop := (x = -1 ∧ y = -1) ∨ (isN x (nH σ) = true ∧ isN y (nH σ) = true)
def cdSolve (σ : Hp) (a x y : Int32) : Nat := if isD σ a = true ∧ ((x = -1 ∧ y = -1) ∨ (isN x (nH σ) = true ∧ isN y (nH σ) = true)) then 0 else 1
def nxSolve (σ : Hp) (a x y : Int32) : Hp := if cdSolve σ a x y = 0 then stSolve σ a.toNatClampNeg x y else σ
theorem cdSolve_0 (e : cdSolve σ a x y = 0) : isD σ a = true ∧ okHnd σ x y := by
  rw [cdSolve] at e
  by_cases h1 : isD σ a = true ∧ ((x = -1 ∧ y = -1) ∨ (isN x (nH σ) = true ∧ isN y (nH σ) = true))
  · exact h1
  · rw [if_neg h1] at e; omega
theorem okHnd_v (V : VS σ) (o : okHnd σ x y) : (x = -1 ∧ y = -1) ∨ ∃ j k, j < nH σ ∧ k < nH σ ∧ x = nI j ∧ y = nI k := by
  have hH := V.h.2
  obtain z | ⟨z1, z2⟩ := o
  · exact Or.inl z
  · obtain ⟨j, hj, e1⟩ := isN_t (by omega) z1
    obtain ⟨k, hk, e2⟩ := isN_t (by omega) z2
    exact Or.inr ⟨j, k, hj, hk, e1, e2⟩
theorem okHnd_h (V : VS σ) (o : okHnd σ x y) : hnd x y := by
  have hH := V.h.2
  obtain z | ⟨j, k, h1, h2, e1, e2⟩ := okHnd_v V o
  · exact Or.inl z
  · exact Or.inr ⟨j, k, by omega, by omega, e1, e2⟩
theorem VS_nxSolve (V : VS σ) : VS (nxSolve σ a x y) := by
  have hD := V.d.2
  rw [nxSolve]
  by_cases q : cdSolve σ a x y = 0
  · rw [if_pos q]
    have e := cdSolve_0 q
    obtain ⟨i, _, em, hi⟩ := isD_t V e.1
    rw [em, nI_clamp (by omega)]
    exact VS_solve V hi (okHnd_v V e.2)
  · rw [if_neg q]; exact V
theorem ok_needHand {F : Hp → Prop} (hd : 7 ≤ d) (hS : Std h.2.2) (V : VS σ) (c : CL σ h) (hq : isN x (nH σ) = true → F h) (hx : isN x (nH σ) = false → X nse h) : OKv d mX11_needHand [.ref 0, .int x] h F X := by
  refine enX11_needHand _ hd hS ⟨fun z => hx (isN_ng z), fun z => ?_⟩
  rw [c.2.2.1, V.h.1]
  exact ⟨fun z2 => hq (by rw [isN_lt z, decide_eq_true z2]), fun z2 => hx (by rw [isN_lt z, decide_eq_false z2])⟩
theorem ok_needOfficer {F : Hp → Prop} (hd : 7 ≤ d) (hS : Std h.2.2) (V : VS σ) (c : CL σ h) (hq : isN x (nO σ) = true → F h) (hx : isN x (nO σ) = false → X nse h) : OKv d mX11_needOfficer [.ref 0, .int x] h F X := by
  refine enX11_needOfficer _ hd hS ⟨fun z => hx (isN_ng z), fun z => ?_⟩
  rw [c.2.2.2.1, V.o.1]
  exact ⟨fun z2 => hq (by rw [isN_lt z, decide_eq_true z2]), fun z2 => hx (by rw [isN_lt z, decide_eq_false z2])⟩
theorem ok_solveC (hd : 8 ≤ d) (hS : Std h.2.2) (V : VS σ) (c : CS σ h) (hq : CWv h (nxSolve σ a x y) (cdSolve σ a x y) (t1 nse) G X) : OKv d mX11_solve [.ref 0, .int a, .int x, .int y] h G X := by
  have hD := V.d.2
  have no : ¬ (isD σ a = true ∧ okHnd σ x y) → X nse h := fun z => by
    have e : cdSolve σ a x y = 1 := if_neg z
    have := hq.2 (by omega)
    rw [e] at this; exact this
  have yes : isD σ a = true → okHnd σ x y → OKv 7 mX0_solveBy [.ref 8, .int a, .int x, .int y] h G X := fun h1 h2 => by
    have e : cdSolve σ a x y = 0 := if_pos ⟨h1, h2⟩
    have fin := hq.1 e
    rw [nxSolve, if_pos e] at fin
    obtain ⟨i, ali, em, hi⟩ := isD_t V h1
    subst em
    rw [nI_clamp (by omega)] at fin
    exact ok_solveBy (by omega) hS (by omega) (okHnd_h V h2) fun q s => fin q (s.1.kl hS) (CS_solve c ali (okHnd_h V h2) s)
  have two : isD σ a = true → ¬ (x = -1 ∧ y = -1) → OKv 7 mX11_needHand [.ref 0, .int x] h (fun h7 => OKv 7 mX11_needHand [.ref 0, .int y] h7 (fun h11 => OKv 7 mX0_solveBy [.ref 8, .int a, .int x, .int y] h11 G X) X) X := fun h1 hne => by
    refine ok_needHand (by omega) hS V c.2.2.1 (fun h2 => ok_needHand (by omega) hS V c.2.2.1 (fun h3 => yes h1 (Or.inr ⟨h2, h3⟩)) fun h3 => no fun w => ?_) fun h2 => no fun w => ?_
    · obtain w | w := w.2
      · exact hne w
      · rw [h3] at w; cases w.2
    · obtain w | w := w.2
      · exact hne w
      · rw [h2] at w; cases w.1
  refine enX11_solve _ _ _ hd hS (ok_needDeed (by omega) hS V c.1 (fun h1 => ⟨fun z => ⟨fun z2 => yes h1 (Or.inl ⟨z, z2⟩), fun z2 => two h1 fun w => z2 w.2⟩, fun z => two h1 fun w => z w.1⟩) fun h1 => no fun w => absurd w.1 (by rw [h1]; decide))
theorem ok_solveM (hd : 4 ≤ d) (hS : Std h.2.2) (V : VS σ) (ma : MA σ h) (hq : MWv h (nxSolve σ a x y) (cdSolve σ a x y) G) : OKv d mX12_solve [.ref 91, .int a, .int x, .int y] h G X := by
  have hD := V.d.2
  have s39 : ¬ (isD σ a = true ∧ okHnd σ x y) → E mX12_solve 3 0 0 39 [(0, .ref 91), (1, .int a), (2, .int x), (3, .int y)] [.ref 91] h (Qv G) X := fun z => by
    have e : cdSolve σ a x y = 1 := if_neg z
    have fin := hq
    rw [nxSolve, if_neg (by omega), e] at fin
    have k1 := k0 (v := 1) (Kp.rf hS)
    exact sgX12_solve_39 _ _ _ (Nat.le_of_ble_eq_true rfl) hS (sgX12_solve_40 _ _ _ _ (Nat.le_of_ble_eq_true rfl) hS ⟨fun w => absurd w (by decide), fun _ => fin _ k1.m (ma.km k1) hI_k⟩)
  have s35 : isD σ a = true → okHnd σ x y → E mX12_solve 3 0 0 35 [(0, .ref 91), (1, .int a), (2, .int x), (3, .int y)] [.ref 91] h (Qv G) X := fun h1 h2 => by
    have e : cdSolve σ a x y = 0 := if_pos ⟨h1, h2⟩
    have fin := hq
    rw [nxSolve, if_pos e, e] at fin
    obtain ⟨i, ali, em, hi⟩ := isD_t V h1
    subst em
    rw [nI_clamp (by omega)] at fin
    have k1 := k0 (v := 0) (Kp.rf hS)
    refine sgX12_solve_35 _ _ _ (Nat.le_of_ble_eq_true rfl) hS (sgX12_solve_40 _ _ _ _ (Nat.le_of_ble_eq_true rfl) hS ⟨fun _ => ?_, fun w => absurd (Int32.le_refl _) w⟩)
    rw [nI_clamp (by omega)]
    refine ⟨vin (by omega), vin (by omega), fin _ (k1.m.tr (Fr.m (L := [102, 103]) (fs := []) (Fr.tr Fr.pI Fr.pI) k1.1)) (((ma.km k1).hI _ _ _).hI _ _ _) ?_⟩
    rw [hI_c (by decide), hI_c (by decide), hI_k]; rfl
  have s19 : isD σ a = true → ¬ (x = -1 ∧ y = -1) → E mX12_solve 3 0 0 19 [(0, .ref 91), (1, .int a), (2, .int x), (3, .int y)] [.ref 91] h (Qv G) X := fun h1 hne => by
    refine sgX12_solve_19 _ _ _ (Nat.le_of_ble_eq_true rfl) hS (ok_isHandM (by omega) hS V ma.mc ⟨fun z => s39 fun w => ?_, fun z => ok_isHandM (by omega) hS V ma.mc ⟨fun z2 => s39 fun w => ?_, fun z2 => s35 h1 (Or.inr ⟨bI_n0.mp z, bI_n0.mp z2⟩)⟩⟩)
    · obtain w | w := w.2
      · exact hne w
      · rw [bI_0.mp z] at w; cases w.1
    · obtain w | w := w.2
      · exact hne w
      · rw [bI_0.mp z2] at w; cases w.2
  refine OKv.up hd (okv_of 3 (by decide +kernel) (Nat.le_of_ble_eq_true rfl) (sgX12_solve_0 _ _ _ (Nat.le_of_ble_eq_true rfl) hS (ok_isDeedM (by omega) hS V ma.mc ⟨fun z => s39 fun w => ?_, fun z => ⟨fun z2 => ⟨fun z3 => s35 (bI_n0.mp z) (Or.inl ⟨z2, z3⟩), fun z3 => s19 (bI_n0.mp z) fun w => z3 w.2⟩, fun z2 => s19 (bI_n0.mp z) fun w => z2 w.1⟩⟩)))
  rw [bI_0.mp z] at w; cases w.1
/-! bar -/
def vBar (σ : Hp) (a b : Int32) : Int32 := bI (!bar σ a.toNatClampNeg b.toNatClampNeg)
def nxBar (σ : Hp) (a b : Int32) : Hp := if cdTwo σ a b = 0 then stBar σ a.toNatClampNeg b.toNatClampNeg else σ
theorem cdTwo_0 (e : cdTwo σ a b = 0) : isD σ a = true ∧ isD σ b = true ∧ a ≠ b := by
  rw [cdTwo] at e
  by_cases h1 : isD σ a = true ∧ isD σ b = true
  · rw [if_pos h1] at e
    by_cases h2 : a = b
    · rw [if_pos h2] at e; omega
    · exact ⟨h1.1, h1.2, h2⟩
  · rw [if_neg h1] at e; omega
theorem VS_nxBar (V : VS σ) : VS (nxBar σ a b) := by
  have hD := V.d.2
  rw [nxBar]
  by_cases q : cdTwo σ a b = 0
  · rw [if_pos q]
    have e := cdTwo_0 q
    obtain ⟨i, _, em, hi⟩ := isD_t V e.1
    obtain ⟨j, _, ej, hj⟩ := isD_t V e.2.1
    rw [em, ej, nI_clamp (by omega), nI_clamp (by omega)]
    exact VS_bar V hi hj
  · rw [if_neg q]; exact V
theorem ok_barC (hd : 9 ≤ d) (hS : Std h.2.2) (V : VS σ) (c : CS σ h) (hq : CW h (nxBar σ a b) (cdTwo σ a b) (vBar σ a b) (t2 nse iae) F X) : OKi d mX11_bar [.ref 0, .int a, .int b] h F X := by
  have hD := V.d.2
  refine enX11_bar _ _ hd hS (ok_needTwo (by omega) hS V c.1 (fun h1 h2 z => ?_) (fun z => ?_) fun h1 h2 z => ?_)
  · have e : cdTwo σ a b = 0 := by rw [cdTwo, if_pos ⟨h1, h2⟩, if_neg z]
    have fin := hq.1 e
    rw [nxBar, vBar, if_pos e] at fin
    obtain ⟨i, _, em, hi⟩ := isD_t V h1
    obtain ⟨j, _, eo, hj⟩ := isD_t V h2
    subst em eo
    rw [nI_clamp (by omega), nI_clamp (by omega)] at fin
    exact ok_tellBarred (by omega) hS c.1 (by omega) (by omega) (fun w => z (by rw [w])) fun q f cd => ⟨bI_01 _, fin q (f.kl hS) (CS_bar c f cd)⟩
  · have e : cdTwo σ a b = 1 := by rw [cdTwo, if_neg z]
    have := hq.2 (by omega)
    rw [e] at this; exact this
  · have e : cdTwo σ a b = 2 := by rw [cdTwo, if_pos ⟨h1, h2⟩, if_pos z]
    have := hq.2 (by omega)
    rw [e] at this; exact this
theorem ok_barM (hd : 4 ≤ d) (hS : Std h.2.2) (V : VS σ) (ma : MA σ h) (hq : MW h (nxBar σ a b) (cdTwo σ a b) (vBar σ a b) F) : OKi d mX12_bar [.ref 91, .int a, .int b] h F X := by
  have hD := V.d.2
  have kk : Kp scm h (hI h 91 0 0) := k0 (Kp.rf hS)
  have mk := ma.km kk
  have no : ∀ n : Nat, cdTwo σ a b = n → n ≠ 0 → MW h σ n (vBar σ a b) F := fun n e hn => by
    have := hq
    rw [nxBar, if_neg (fun w => absurd w (by omega)), e] at this; exact this
  have n1 : ¬ (isD σ a = true ∧ isD σ b = true) → cdTwo σ a b = 1 := fun z => if_neg z
  refine OKi.up hd (oki_of 3 (by decide +kernel) (Nat.le_of_ble_eq_true rfl) (sgX12_bar_0 _ _ (Nat.le_of_ble_eq_true rfl) hS (ok_isDeedM (by omega) kk.1 V mk.mc ⟨fun z => ok_fellW (n := 1) (by omega) kk ma (by decide) (no 1 (n1 fun w => absurd w.1 (by rw [bI_0.mp z]; decide)) (by decide)), fun z => ok_isDeedM (by omega) kk.1 V mk.mc ⟨fun z2 => ok_fellW (n := 1) (by omega) kk ma (by decide) (no 1 (n1 fun w => absurd w.2 (by rw [bI_0.mp z2]; decide)) (by decide)), fun z2 => ⟨fun z3 => ok_fellW (n := 2) (by omega) kk ma (by decide) (no 2 (by rw [cdTwo, if_pos ⟨bI_n0.mp z, bI_n0.mp z2⟩, if_pos z3]) (by decide)), fun z3 => ?_⟩⟩⟩)))
  have h1 := bI_n0.mp z
  have h2 := bI_n0.mp z2
  have e : cdTwo σ a b = 0 := by rw [cdTwo, if_pos ⟨h1, h2⟩, if_neg z3]
  have fin := hq
  rw [nxBar, vBar, if_pos e, e] at fin
  obtain ⟨i, _, em, hi⟩ := isD_t V h1
  obtain ⟨j, _, eo, hj⟩ := isD_t V h2
  subst em eo
  rw [nI_clamp (by omega), nI_clamp (by omega)] at fin
  rw [lit_60, lit_60, nI_clamp (by omega), nI_clamp (by omega), mk.i 106]
  have go : F (bI (!bar σ i j)) (hI (hI (hI h 91 0 0) 106 (60 * i + j) 1) 106 (60 * j + i) 1) := by
    refine fin _ _ (kk.m.tr (Fr.m (L := [106]) (fs := []) (Fr.tr Fr.pI Fr.pI) kk.1)) ((mk.hI _ _ _).hI _ _ _) ?_ fun _ => rfl
    rw [hI_c (by decide), hI_c (by decide), hI_k]; rfl
  refine ⟨vin (by omega), vin (by omega), vin (by omega), fun w => ?_, fun w => ?_⟩
  · rw [bar, decide_eq_true w] at go; exact go
  · rw [bar, decide_eq_false w] at go; exact go
/-! are -/
def vAre (σ : Hp) (a b : Int32) : Int32 := if one σ a.toNatClampNeg b.toNatClampNeg then 1 else if brd σ a.toNatClampNeg b.toNatClampNeg then 2 else 0
theorem ok_areC (hd : 9 ≤ d) (hS : Std h.2.2) (V : VS σ) (c : CS σ h) (hq : CR h (cdTwo σ a b) (vAre σ a b) (t2 nse iae) F X) : OKi d mX11_are [.ref 0, .int a, .int b] h F X := by
  have hD := V.d.2
  refine enX11_are _ _ hd hS (ok_needTwo (by omega) hS V c.1 (fun h1 h2 z => ?_) (fun z => ?_) fun h1 h2 z => ?_)
  · have e : cdTwo σ a b = 0 := by rw [cdTwo, if_pos ⟨h1, h2⟩, if_neg z]
    rw [e] at hq
    have fin := hq.1 rfl h (Kp.rf hS)
    obtain ⟨i, ali, em, hi⟩ := isD_t V h1
    obtain ⟨j, alj, eo, hj⟩ := isD_t V h2
    subst em eo
    have ne : j ≠ i := fun w => z (by rw [w])
    rw [vAre, nI_clamp (by omega), nI_clamp (by omega)] at fin
    refine ok_oneWith (by omega) hS V c.1 hi fun r hr => ok_has (by omega) hS (by omega) ?_
    rw [hr, ali, alj, decide_eq_false ne, Bool.not_false, Bool.and_true, Bool.true_and, Bool.true_and]
    refine ⟨fun z2 => ok_barredFrom (by omega) hS V c.1 ali fun r2 hr2 => ok_has (by omega) hS (by omega) ?_, fun z2 => ?_⟩
    · rw [bI_0.mp z2, if_neg (by decide)] at fin
      rw [hr2, alj, decide_eq_false ne, Bool.not_false, Bool.and_true, Bool.true_and]
      refine ⟨fun z3 => ?_, fun z3 => ?_⟩
      · rw [bI_0.mp z3] at fin; exact fin
      · rw [bI_n0.mp z3] at fin; exact fin
    · rw [bI_n0.mp z2] at fin; exact fin
  · have e : cdTwo σ a b = 1 := by rw [cdTwo, if_neg z]
    rw [e] at hq
    exact hq.2 (by decide) h (Kp.rf hS)
  · have e : cdTwo σ a b = 2 := by rw [cdTwo, if_pos ⟨h1, h2⟩, if_pos z]
    rw [e] at hq
    exact hq.2 (by decide) h (Kp.rf hS)
theorem ok_areM (hd : 5 ≤ d) (hS : Std h.2.2) (V : VS σ) (mc : MC σ h) (hq : MR h (cdTwo σ a b) (vAre σ a b) F) : OKi d mX12_are [.ref 91, .int a, .int b] h F X := by
  have hD := V.d.2
  have kk : Kp scm h (hI h 91 0 0) := k0 (Kp.rf hS)
  have mk := mc.km kk
  have n1 : ¬ (isD σ a = true ∧ isD σ b = true) → cdTwo σ a b = 1 := fun z => if_neg z
  refine OKi.up hd (oki_of 4 (by decide +kernel) (Nat.le_of_ble_eq_true rfl) (sgX12_are_0 _ _ (Nat.le_of_ble_eq_true rfl) hS (ok_isDeedM (by omega) kk.1 V mk ⟨fun z => ok_failsM (n := 1) (by omega) kk (n1 fun w => absurd w.1 (by rw [bI_0.mp z]; decide)) (by decide) hq, fun z => ok_isDeedM (by omega) kk.1 V mk ⟨fun z2 => ok_failsM (n := 1) (by omega) kk (n1 fun w => absurd w.2 (by rw [bI_0.mp z2]; decide)) (by decide) hq, fun z2 => ⟨fun z3 => ok_failsM (n := 2) (by omega) kk (by rw [cdTwo, if_pos ⟨bI_n0.mp z, bI_n0.mp z2⟩, if_pos z3]) (by decide) hq, fun z3 => ?_⟩⟩⟩)))
  have h1 := bI_n0.mp z
  have h2 := bI_n0.mp z2
  have e : cdTwo σ a b = 0 := by rw [cdTwo, if_pos ⟨h1, h2⟩, if_neg z3]
  rw [e] at hq
  have fin := fun r hr => hq _ r kk hI_k hr
  obtain ⟨i, _, em, hi⟩ := isD_t V h1
  obtain ⟨j, _, eo, hj⟩ := isD_t V h2
  subst em eo
  rw [vAre, nI_clamp (by omega), nI_clamp (by omega)] at fin
  refine ok_areOneM (by omega) kk.1 V mk (by omega) (by omega) ⟨fun w => ok_areBarredM (by omega) kk.1 V mk hi hj ⟨fun w2 => fin _ fun _ => ?_, fun w2 => fin _ fun _ => ?_⟩, fun w => fin _ fun _ => ?_⟩
  · rw [bI_0.mp w, bI_0.mp w2]; rfl
  · rw [bI_0.mp w, bI_n0.mp w2]; rfl
  · rw [bI_n0.mp w]; rfl
/-! link -/
def cdLink (σ : Hp) (o a b : Int32) : Nat := if isN o (nO σ) = true ∧ isD σ a = true ∧ isD σ b = true then (if a = b then 2 else 0) else 1
def vLink (σ : Hp) : Int32 := if nL σ < 40 then nI (nL σ + 1) else -1
def nxLink (σ : Hp) (o a b : Int32) : Hp := if cdLink σ o a b = 0 ∧ nL σ < 40 then stLink σ o a b else σ
theorem VS_nxLink (V : VS σ) : VS (nxLink σ o a b) := by
  have hD := V.d.2
  rw [nxLink]
  by_cases q : cdLink σ o a b = 0 ∧ nL σ < 40
  · rw [if_pos q]
    have e := q.1
    rw [cdLink] at e
    by_cases h1 : isN o (nO σ) = true ∧ isD σ a = true ∧ isD σ b = true
    · rw [if_pos h1] at e
      by_cases h2 : a = b
      · rw [if_pos h2] at e; omega
      · obtain ⟨i, ali, em, hi⟩ := isD_t V h1.2.1
        obtain ⟨j, alj, ej, hj⟩ := isD_t V h1.2.2
        rw [em, ej]
        exact VS_link V q.2 ali alj fun w => h2 (by rw [em, ej, w])
    · rw [if_neg h1] at e; omega
  · rw [if_neg q]; exact V
theorem ok_linkC (hd : 9 ≤ d) (hS : Std h.2.2) (V : VS σ) (c : CS σ h) (hq : CW h (nxLink σ o a b) (cdLink σ o a b) (vLink σ) (t2 nse iae) F X) : OKi d mX11_link [.ref 0, .int o, .int a, .int b] h F X := by
  have no : ¬ (isN o (nO σ) = true ∧ isD σ a = true ∧ isD σ b = true) → X nse h := fun z => by
    have e : cdLink σ o a b = 1 := if_neg z
    have := hq.2 (by omega)
    rw [e] at this; exact this
  refine enX11_link _ _ _ hd hS (ok_needOfficer (by omega) hS V c.2.2.1 (fun h0 => ok_needTwo (by omega) hS V c.1 (fun h1 h2 z => ?_) (fun z => no fun w => z w.2) fun h1 h2 z => ?_) fun h0 => no fun w => absurd w.1 (by rw [h0]; decide))
  · have e : cdLink σ o a b = 0 := by rw [cdLink, if_pos ⟨h0, h1, h2⟩, if_neg z]
    have fin := hq.1 e
    rw [nxLink, vLink] at fin
    refine ok_addLink (by omega) hS V c.2.2.2.1 (fun z4 => ?_) fun z4 g f ck => ?_
    · rw [if_neg (fun w => absurd w.2 (by omega)), if_neg (by omega)] at fin
      exact fin h (KL.rf hS) c
    · rw [if_pos ⟨e, z4⟩, if_pos z4] at fin
      exact fin g (f.kl hS) (CS_link c f ck)
  · have e : cdLink σ o a b = 2 := by rw [cdLink, if_pos ⟨h0, h1, h2⟩, if_pos z]
    have := hq.2 (by omega)
    rw [e] at this; exact this
theorem ok_linkM (hd : 4 ≤ d) (hS : Std h.2.2) (V : VS σ) (ma : MA σ h) (hq : MW h (nxLink σ o a b) (cdLink σ o a b) (vLink σ) F) : OKi d mX12_link [.ref 91, .int o, .int a, .int b] h F X := by
  have hL := V.l.2
  have kk : Kp scm h (hI h 91 0 0) := k0 (Kp.rf hS)
  have mk := ma.km kk
  have no : ∀ n : Nat, cdLink σ o a b = n → n ≠ 0 → MW h σ n (vLink σ) F := fun n e hn => by
    have := hq
    rw [nxLink, if_neg (fun w => absurd w.1 (by omega)), e] at this; exact this
  have n1 : ¬ (isN o (nO σ) = true ∧ isD σ a = true ∧ isD σ b = true) → cdLink σ o a b = 1 := fun z => if_neg z
  refine OKi.up hd (oki_of 3 (by decide +kernel) (Nat.le_of_ble_eq_true rfl) (sgX12_link_0 _ _ _ (Nat.le_of_ble_eq_true rfl) hS (ok_isOfficerM (by omega) kk.1 V mk.mc ⟨fun z => ok_failsW (n := 1) (by omega) kk ma (by decide) (no 1 (n1 fun w => absurd w.1 (by rw [bI_0.mp z]; decide)) (by decide)), fun z => ok_isDeedM (by omega) kk.1 V mk.mc ⟨fun z2 => ok_failsW (n := 1) (by omega) kk ma (by decide) (no 1 (n1 fun w => absurd w.2.1 (by rw [bI_0.mp z2]; decide)) (by decide)), fun z2 => ok_isDeedM (by omega) kk.1 V mk.mc ⟨fun z3 => ok_failsW (n := 1) (by omega) kk ma (by decide) (no 1 (n1 fun w => absurd w.2.2 (by rw [bI_0.mp z3]; decide)) (by decide)), fun z3 => ⟨fun z4 => ok_failsW (n := 2) (by omega) kk ma (by decide) (no 2 (by rw [cdLink, if_pos ⟨bI_n0.mp z, bI_n0.mp z2, bI_n0.mp z3⟩, if_pos z4]) (by decide)), fun z4 => ?_⟩⟩⟩⟩)))
  have e : cdLink σ o a b = 0 := by rw [cdLink, if_pos ⟨bI_n0.mp z, bI_n0.mp z2, bI_n0.mp z3⟩, if_neg z4]
  have fin := hq
  rw [nxLink, vLink, e] at fin
  rw [mk.i 91 7, V.l.1, lit_nI 40, nI_eq (b := 40) (by omega) (by omega)]
  refine ⟨fun z5 => ?_, fun z5 => ?_⟩
  · rw [if_neg (fun w => absurd w.2 (by omega)), if_neg (by omega)] at fin
    exact fin _ _ kk.m mk hI_k fun _ => rfl
  · have h40 : nL σ < 40 := by omega
    rw [if_pos ⟨rfl, h40⟩, if_pos h40] at fin
    rw [nI_clamp (by omega), nI_1]
    refine ⟨vin h40, vin h40, vin h40, fin _ _ (kk.m.tr (Fr.m (L := [109, 110, 111]) (fs := [(91, 7)]) (Fr.tr (Fr.tr (Fr.tr Fr.pI Fr.pI) Fr.pI) Fr.pI) kk.1)) ((((mk.hI _ _ _).hI _ _ _).hI _ _ _).hI _ _ _) ?_ fun _ => rfl⟩
    rw [hI_j (by decide), hI_c (by decide), hI_c (by decide), hI_c (by decide), hI_k]; rfl
end OPSN
