/-! rights: let, keep; may, ask, kept -/
section LETKEEP
variable {σ h h0 q : Hp} {d : Nat} {X : String → Hp → Prop} {F : Int32 → Hp → Prop} {G : Hp → Prop} {x y z o a : Int32} {ν : Nat → Int64}
def letO (σ h : Hp) (o a : Nat) : Bool := letV (nuF σ (rkO σ (nI o)) (ownO σ (nI o) a) a) h (nN σ)
def kpO (σ h : Hp) (a : Nat) : Int32 := keepV (nuF σ 0 false a) h (nN σ)
def EqR (q h : Hp) : Prop := ∀ j, q.1 66 j = h.1 66 j ∧ q.1 67 j = h.1 67 j ∧ q.1 68 j = h.1 68 j ∧ q.1 69 j = h.1 69 j ∧ q.1 70 j = h.1 70 j
theorem EqR.ts (e : EqR q h) {k : Nat} : tsC ν q k = tsC ν h k := by
  have e70 : q.1 70 = h.1 70 := funext fun j => (e j).2.2.2.2
  rw [tsC, tsC, (e k).2.2.1, (e k).2.2.2.1, e70]
theorem EqR.sm (e : EqR q h) {k : Nat} : smC ν q k = smC ν h k := by
  have e70 : q.1 70 = h.1 70 := funext fun j => (e j).2.2.2.2
  rw [smC, smC, (e k).2.1, (e k).2.2.1, e70]
theorem EqR.lt (e : EqR q h) : ∀ k, letV ν q k = letV ν h k
  | 0 => rfl
  | k + 1 => by rw [letV, letV, (e k).1, e.ts, e.lt k]
theorem EqR.kp (e : EqR q h) : ∀ k, keepV ν q k = keepV ν h k
  | 0 => rfl
  | k + 1 => by rw [keepV, keepV, (e k).1, e.ts, e.sm, e.kp k]
theorem Fr.eqR {L : List Nat} {fs : List (Nat × Nat)} (f : Fr L fs h q) (hL : ∀ k, inW L fs 66 k = false ∧ inW L fs 67 k = false ∧ inW L fs 68 k = false ∧ inW L fs 69 k = false ∧ inW L fs 70 k = false := by exact fun _ => ⟨rfl, rfl, rfl, rfl, rfl⟩) : EqR q h := fun j => ⟨f.i 66 j (hL j).1, f.i 67 j (hL j).2.1, f.i 68 j (hL j).2.2.1, f.i 69 j (hL j).2.2.2.1, f.i 70 j (hL j).2.2.2.2⟩
/-- the class -/
theorem ok_isLetC {o a : Nat} (hd : 5 ≤ d) (hS : Std h.2.2) (V : VS σ) (Z : VZ σ) (c : CS σ h) (cr : CRt σ h) (ho : o < nO σ) (ha : al σ a = true) (hq : ∀ q, Fr [71, 72] [] h q → F (bI (letO σ h o a)) q) : OKi d mX11_isLet [.ref 0, .int (nI o), .int (nI a)] h F X := by
  have hD := V.d.2
  have hO := V.o.2
  have hP := V.p.2
  have haD := al_lt ha
  have dp := (V.de haD).1
  have n1 : ¬ nI o = -1 := nI_neg (by omega)
  have cl := c.2.2.1.2.2.2.2.2 o ho
  have cp := c.2.1.2 (plc σ a) dp.2
  have e1 : rkO σ (nI o) = σ.1 97 o := by rw [rkO, if_neg n1, nI_clamp (by omega)]
  have e2 : ownO σ (nI o) a = decide (σ.1 96 o = σ.1 94 (plc σ a)) := by rw [ownO, decide_eq_false n1, nI_clamp (by omega), Bool.not_false, Bool.true_and]
  have fin : ∀ b : Bool, b = ownO σ (nI o) a → OKv 4 mX11_nameFor [.ref 0, .int (nI a), .int (σ.1 97 o), .int (bI b)] h (fun g => OKi 4 mX7_lets [.ref 65] g (fun r k => (r = 0 ∨ r = 1) ∧ F r k) X) X := fun b hb2 => by
    refine ok_nameFor (by omega) hS V Z c ha fun q1 f1 w1 => ?_
    have eq : EqR q1 h := f1.eqR
    have cq : CRt σ q1 := cr.hc (f1.i 65 0) eq
    refine ok_lets (by omega) (f1.sd hS) cq rfl fun q2 f2 => ?_
    have l : letV (q1.2.1 71) q1 (nN σ) = letO σ h o a := by
      rw [cq.lt (ν := nuF σ (rkO σ (nI o)) (ownO σ (nI o) a) a) (fun i hi => by rw [w1 i hi, e1, hb2]) _ (Nat.le_refl _), eq.lt]; rfl
    rw [l]
    exact ⟨bI_01 _, hq q2 (f1.mono.tr f2.mono)⟩
  refine enX11_isLet _ _ hd hS ?_
  rw [nI_clamp (by omega), nI_clamp (by omega), (c.1.de haD).1, dp.1, nI_clamp (by omega), cl.1, cl.2, cp.2.2]
  refine ⟨vin (by omega), vin (by omega), vin (by omega), fun w => ⟨vin (by omega), fun w2 => absurd w2 (by decide), fun _ => fin true (by rw [e2, decide_eq_true w])⟩, fun w => ⟨vin (by omega), fun _ => fin false (by rw [e2, decide_eq_false w]), fun w2 => absurd rfl w2⟩⟩
theorem ok_keepOfC {a : Nat} (hd : 5 ≤ d) (hS : Std h.2.2) (V : VS σ) (Z : VZ σ) (c : CS σ h) (cr : CRt σ h) (ha : al σ a = true) (hq : ∀ q, Fr [71, 72] [] h q → F (kpO σ h a) q) : OKi d mX11_keepOf [.ref 0, .int (nI a)] h F X := by
  refine enX11_keepOf _ hd hS ?_
  show OKv 4 mX11_nameFor [.ref 0, .int (nI a), .int 0, .int (bI false)] h _ X
  refine ok_nameFor (by omega) hS V Z c ha fun q1 f1 w1 => ?_
  have eq : EqR q1 h := f1.eqR
  have cq : CRt σ q1 := cr.hc (f1.i 65 0) eq
  refine ok_keeps (by omega) (f1.sd hS) cq rfl fun q2 f2 => ?_
  have l : keepV (q1.2.1 71) q1 (nN σ) = kpO σ h a := by
    rw [cq.kp (ν := nuF σ 0 false a) w1 _ (Nat.le_refl _), eq.kp]; rfl
  rw [l]
  exact hq q2 (f1.mono.tr f2.mono)
/-- the reference -/
theorem ok_isLetM {o a : Nat} (hd : 4 ≤ d) (hS : Std h.2.2) (V : VS σ) (m : MA σ h) (cr : CRt σ h0) (ho : o < nO σ) (ha : a < nD σ) (hq : ∀ q, Fr [141, 142] [] h q → F (bI (letO σ h0 o a)) q) : OKi d mX12_isLet [.ref 91, .int (nI o), .int (nI a)] h F X := by
  have hD := V.d.2
  have hO := V.o.2
  have n12 := cr.1.2
  refine enX12_isLet _ _ hd hS (ok_names (by omega) hS V m.mc ha (Or.inr (isN_nI (by omega) ho)) fun q1 f1 w1 => ?_)
  have m1 : MA σ q1 := m.km (f1.km hS)
  refine ok_lineOf (by omega) (f1.sd hS) m1 cr rfl fun q2 f2 => ?_
  have m2 : MA σ q2 := m1.km (f2.km (f1.sd hS))
  have fin := hq q2 (f1.mono.tr f2.mono)
  rw [letO] at fin
  rw [cr.ln (ν := nuF σ (rkO σ (nI o)) (ownO σ (nI o) a) a) w1 _ (Nat.le_refl _)]
  obtain ⟨e1, e2⟩ | ⟨j, hj, e1, e2⟩ := lnR_let (ν := nuF σ (rkO σ (nI o)) (ownO σ (nI o) a) a) (h0 := h0) (nN σ) (fun j hj => by
    obtain ⟨_, _, _, _, _, _, _, _, z3, _⟩ := cr.2.2 j hj
    rw [z3.1]; exact z3.2)
  · rw [e1]
    rw [e2] at fin
    exact ⟨fun _ => fin, fun w => absurd rfl w⟩
  · rw [e1]
    rw [e2] at fin
    have l0 : (4 : Int32) * nI j = nI (4 * j) := by rw [lit_nI 4, pk_mul]
    obtain ⟨_, _, _, _, _, _, _, _, z3, _⟩ := cr.2.2 j hj
    refine ⟨fun w => absurd w (nI_neg (by omega)), fun _ => ?_⟩
    rw [l0, nI_clamp (by omega), m2.i 140, ← z3.1]
    exact ⟨vin (by omega), fun w => by rw [decide_eq_true w] at fin; exact fin, fun w => by rw [decide_eq_false w] at fin; exact fin⟩
theorem ok_keepOfM {a : Nat} (hd : 4 ≤ d) (hS : Std h.2.2) (V : VS σ) (m : MA σ h) (cr : CRt σ h0) (ha : a < nD σ) (hq : ∀ q, Fr [141, 142] [] h q → F (kpO σ h0 a) q) : OKi d mX12_keepOf [.ref 91, .int (nI a)] h F X := by
  have n12 := cr.1.2
  refine enX12_keepOf _ hd hS (ok_names (by omega) hS V m.mc ha (Or.inl rfl) fun q1 f1 w1 => ?_)
  have m1 : MA σ q1 := m.km (f1.km hS)
  have w1 : EqN (q1.2.1 141) (nuF σ 0 false a) := w1
  refine ok_lineOf (by omega) (f1.sd hS) m1 cr rfl fun q2 f2 => ?_
  have f12 : Fr [141, 142] [] h q2 := f1.mono.tr f2.mono
  have m2 : MA σ q2 := m1.km (f2.km (f1.sd hS))
  have fin := hq
  rw [kpO] at fin
  rw [cr.ln (ν := nuF σ 0 false a) w1 _ (Nat.le_refl _)]
  obtain ⟨e1, e2⟩ | ⟨j, hj, e1, e66, e2⟩ := lnR_keep (ν := nuF σ 0 false a) (h0 := h0) (nN σ)
  · rw [e1]
    rw [e2] at fin
    exact ⟨fun _ => fin q2 f12, fun w => absurd rfl w⟩
  · rw [e1]
    rw [e2] at fin
    have l0 : (4 : Int32) * nI j = nI (4 * j) := by rw [lit_nI 4, pk_mul]
    have l1 : nI (4 * j) + 1 = nI (4 * j + 1) := by rw [lit_nI 1, nI_add]
    have l2 : nI (4 * j) + 2 = nI (4 * j + 2) := by rw [lit_nI 2, nI_add]
    have ln := cr.2.2 j hj
    obtain ⟨p, b, e', a', b', e2', ⟨y1, y2, y3, y4, y5, y6⟩, ⟨e67, e68, e69, e141, e142, e143⟩, ⟨g66, _⟩, z4, _⟩ := ln
    obtain ⟨v, hv⟩ := z4 (by rw [← g66]; exact e66) (nuF σ 0 false a)
    have hv2 : runC (nuF σ 0 false a) (h0.1 70) p (b - p) [] = [v] := (hv _ EqN.rf).1
    have e138 : q2.1 138 = σ.1 138 := funext fun k => m2.i 138 k
    have w2 : EqN (q2.2.1 141) (nuF σ 0 false a) := fun i hi => by rw [f2.l 141 i]; exact w1 i hi
    obtain ⟨nr, hrr⟩ := (hv _ w2).2
    refine ⟨fun w => absurd w (nI_neg (by omega)), fun _ => ?_⟩
    rw [l0, l1, l2, nI_clamp (by omega), nI_clamp (by omega), m2.i 140, m2.i 140, e141, e142]
    refine ⟨vin (by omega), vin (by omega), ok_worked (n := nr) (v := v) (by omega) (f2.sd (f1.sd hS)) (by omega) (by rw [e138]; exact hrr) fun q3 f3 => ?_⟩
    have := fin q3 (f12.tr f3.mono)
    rw [smC, e67, e68, nI_clamp (by omega), nI_clamp (by omega), hv2] at this
    exact this
/-! may -/
def cdMay (σ : Hp) (o a : Int32) : Nat := if isN o (nO σ) = true ∧ isD σ a = true then 0 else 1
def vMay (σ h : Hp) (o a : Int32) : Int32 := bI (letO σ h o.toNatClampNeg a.toNatClampNeg)
theorem cdMay_0 (h1 : isN o (nO σ) = true) (h2 : isD σ a = true) : cdMay σ o a = 0 := if_pos ⟨h1, h2⟩
theorem cdMay_1 (h1 : isN o (nO σ) = false ∨ isD σ a = false) : cdMay σ o a = 1 := by
  rw [cdMay, if_neg]
  intro w
  obtain z | z := h1
  · rw [z] at w; exact absurd w.1 (by decide)
  · rw [z] at w; exact absurd w.2 (by decide)
theorem ok_mayC (hd : 8 ≤ d) (hS : Std h.2.2) (V : VS σ) (Z : VZ σ) (c : CS σ h) (cr : CRt σ h) (hq : CR h (cdMay σ o a) (vMay σ h o a) (t1 nse) F X) : OKi d mX11_may [.ref 0, .int o, .int a] h F X := by
  have hO := V.o.2
  have no : isN o (nO σ) = false ∨ isD σ a = false → X nse h := fun z => by
    have e := cdMay_1 z
    have := hq.2 (by omega) h (Kp.rf hS)
    rw [e] at this; exact this
  refine enX11_may _ _ hd hS (ok_needOfficer (by omega) hS V c.2.2.1 (fun h1 => ok_needDeed (by omega) hS V c.1 (fun h2 => ?_) fun h2 => no (Or.inr h2)) fun h1 => no (Or.inl h1))
  have fin := hq.1 (cdMay_0 h1 h2)
  obtain ⟨i, hi, ei⟩ := isN_t (by omega) h1
  obtain ⟨j, alj, ej, hj⟩ := isD_t V h2
  have hD := V.d.2
  rw [ei, ej, vMay, nI_clamp (by omega), nI_clamp (by omega)] at fin
  subst ei
  subst ej
  exact ok_isLetC (by omega) hS V Z c cr hi alj fun q f => ⟨bI_01 _, fin q (f.kc hS)⟩
theorem ok_mayM (hd : 5 ≤ d) (hS : Std h.2.2) (V : VS σ) (m : MA σ h) (cr : CRt σ h0) (hq : MR h (cdMay σ o a) (vMay σ h0 o a) F) : OKi d mX12_may [.ref 91, .int o, .int a] h F X := by
  have hO := V.o.2
  have hD := V.d.2
  have kk : Kp scm h (hI h 91 0 0) := k0 (Kp.rf hS)
  have mk := m.km kk
  have no : isN o (nO σ) = false ∨ isD σ a = false → ∀ q, Kp scm h q → OKi 4 mX12_fell [.ref 91, .int 1] q (fun r g => (r = 0 ∨ r = 1) ∧ F r g) X := fun z q k => by
    have e := cdMay_1 z
    have := hq
    rw [e] at this
    exact enX12_fell _ (by omega) k.1 ⟨Or.inl rfl, this _ 0 (k0 (v := nI 1) k) hI_k fun w => absurd w (by decide)⟩
  refine enX12_may _ _ hd hS (ok_isOfficerM (by omega) kk.1 V mk.mc ⟨fun z => no (Or.inl (bI_0.mp z)) _ kk, fun z => ok_isDeedM (by omega) kk.1 V mk.mc ⟨fun z2 => no (Or.inr (bI_0.mp z2)) _ kk, fun z2 => ?_⟩⟩)
  have h1 := bI_n0.mp z
  have h2 := bI_n0.mp z2
  have fin := hq
  rw [cdMay_0 h1 h2] at fin
  obtain ⟨i, hi, ei⟩ := isN_t (by omega) h1
  obtain ⟨j, alj, ej, hj⟩ := isD_t V h2
  rw [ei, ej, vMay, nI_clamp (by omega), nI_clamp (by omega)] at fin
  subst ei
  subst ej
  refine ok_isLetM (by omega) kk.1 V mk cr hi hj fun q f => ⟨bI_01 _, fin q _ (kk.tr (f.km kk.1)) ?_ fun _ => rfl⟩
  rw [f.i 91 0, hI_k]; rfl
/-! ask -/
def vAsk (σ h : Hp) (o a m : Int32) : Int32 := if (isN o (nO σ) && isD σ a && isN m (nM σ)) && letO σ h o.toNatClampNeg a.toNatClampNeg then lst σ a.toNatClampNeg m.toNatClampNeg else -1
theorem ok_askC (hd : 6 ≤ d) (hS : Std h.2.2) (V : VS σ) (Z : VZ σ) (c : CS σ h) (cr : CRt σ h) (hq : ∀ q, Kp scr h q → F (vAsk σ h o a x) q) : OKi d mX11_ask [.ref 0, .int o, .int a, .int x] h F X := by
  have hO := V.o.2
  have hD := V.d.2
  have hM := V.m.2
  have no : ∀ q, Kp scr h q → ((isN o (nO σ) && isD σ a && isN x (nM σ)) && letO σ h o.toNatClampNeg a.toNatClampNeg) = false → F (-1) q := fun q k z => by
    have := hq q k
    rw [vAsk, z, if_neg (by decide)] at this; exact this
  refine enX11_ask _ _ _ hd hS (ok_isWithin (by omega) hS ?_)
  rw [c.2.2.1.2.2.2.1, V.o.1, isN_w (by omega)]
  refine ⟨fun z => no h (Kp.rf hS) (by rw [bI_0.mp z]; simp), fun z => ok_isDeedC (by omega) hS V c.1 ⟨fun z2 => no h (Kp.rf hS) (by rw [bI_0.mp z2]; simp), fun z2 => ok_isWithin (by omega) hS ?_⟩⟩
  rw [c.mk V, isN_w (by omega)]
  have h1 := bI_n0.mp z
  have h2 := bI_n0.mp z2
  refine ⟨fun z3 => no h (Kp.rf hS) (by rw [bI_0.mp z3]; simp), fun z3 => ?_⟩
  have h3 := bI_n0.mp z3
  rw [h1, h2, h3, Bool.and_self, Bool.and_self, Bool.true_and] at no
  have yes := hq
  rw [vAsk, h1, h2, h3, Bool.and_self, Bool.and_self, Bool.true_and] at yes
  obtain ⟨i, hi, ei⟩ := isN_t (by omega) h1
  obtain ⟨j, alj, ej, hj⟩ := isD_t V h2
  obtain ⟨k, hk, ek⟩ := isN_t (by omega) h3
  subst ei
  subst ej
  subst ek
  rw [nI_clamp (by omega), nI_clamp (by omega)] at no yes
  rw [nI_clamp (by omega)] at yes
  refine ok_isLetC (by omega) hS V Z c cr hi alj fun q f => ?_
  have kq : Kp scr h q := f.kc hS
  have cq : CS σ q := c.kc kq
  refine ⟨fun w => no q kq (bI_0.mp w), fun w => ok_stateOf (w := lst σ) shok_22 (by omega) kq.1 cq.2.2.2.2.1 (by omega) (by omega) (V.s03 _).1 ?_⟩
  have := yes q kq
  rw [bI_n0.mp w, if_pos rfl] at this; exact this
theorem ok_askM (hd : 5 ≤ d) (hS : Std h.2.2) (V : VS σ) (m : MA σ h) (cr : CRt σ h0) (hq : MR h 0 (vAsk σ h0 o a x) F) : OKi d mX12_ask [.ref 91, .int o, .int a, .int x] h F X := by
  have hO := V.o.2
  have hD := V.d.2
  have hM := V.m.2
  have kk : Kp scm h (hI h 91 0 0) := k0 (Kp.rf hS)
  have mk := m.km kk
  have no : ∀ q, Kp scm h q → q.1 91 0 = nI 0 → ((isN o (nO σ) && isD σ a && isN x (nM σ)) && letO σ h0 o.toNatClampNeg a.toNatClampNeg) = false → F (-1) q := fun q k e z => by
    refine hq q (-1) k e fun _ => ?_
    rw [vAsk, z, if_neg (by decide)]
  refine enX12_ask _ _ _ hd hS (ok_isOfficerM (by omega) kk.1 V mk.mc ⟨fun z => no _ kk hI_k (by rw [bI_0.mp z]; simp), fun z => ok_isDeedM (by omega) kk.1 V mk.mc ⟨fun z2 => no _ kk hI_k (by rw [bI_0.mp z2]; simp), fun z2 => ok_isMarkM (by omega) kk.1 V mk.mc ⟨fun z3 => no _ kk hI_k (by rw [bI_0.mp z3]; simp), fun z3 => ?_⟩⟩⟩)
  have h1 := bI_n0.mp z
  have h2 := bI_n0.mp z2
  have h3 := bI_n0.mp z3
  rw [h1, h2, h3, Bool.and_self, Bool.and_self, Bool.true_and] at no
  have yes := hq
  rw [vAsk, h1, h2, h3, Bool.and_self, Bool.and_self, Bool.true_and] at yes
  obtain ⟨i, hi, ei⟩ := isN_t (by omega) h1
  obtain ⟨j, alj, ej, hj⟩ := isD_t V h2
  obtain ⟨k, hk, ek⟩ := isN_t (by omega) h3
  subst ei
  subst ej
  subst ek
  rw [nI_clamp (by omega), nI_clamp (by omega)] at no yes
  rw [nI_clamp (by omega)] at yes
  refine ok_isLetM (by omega) kk.1 V mk cr hi hj fun q f => ?_
  have kq := kk.tr (f.km kk.1)
  have eq0 : q.1 91 0 = nI 0 := by rw [f.i 91 0, hI_k]; rfl
  have mq : MA σ q := m.km kq
  have l0 : (16 : Int32) * nI j + nI k = nI (16 * j + k) := by rw [lit_nI 16, pk_mul, nI_add]
  refine ⟨fun w => no q kq eq0 (bI_0.mp w), fun w => ?_⟩
  rw [l0, nI_clamp (by omega), mq.i 107]
  refine ⟨vin (by omega), yes q _ kq eq0 fun _ => ?_⟩
  rw [bI_n0.mp w, if_pos rfl]; rfl
/-! kept -/
def vKept (σ h : Hp) (a : Int32) : Int32 := kpO σ h a.toNatClampNeg
theorem ok_keptC (hd : 8 ≤ d) (hS : Std h.2.2) (V : VS σ) (Z : VZ σ) (c : CS σ h) (cr : CRt σ h) (hq : CR h (cdD σ a) (vKept σ h a) (t1 nse) F X) : OKi d mX11_kept [.ref 0, .int a] h F X := by
  refine enX11_kept _ hd hS (ok_needDeed (by omega) hS V c.1 (fun h2 => ?_) fun h2 => ?_)
  · have e : cdD σ a = 0 := by rw [cdD, h2]; rfl
    have fin := hq.1 e
    obtain ⟨j, alj, ej, hj⟩ := isD_t V h2
    have hD := V.d.2
    rw [ej, vKept, nI_clamp (by omega)] at fin
    subst ej
    exact ok_keepOfC (by omega) hS V Z c cr alj fun q f => fin q (f.kc hS)
  · have e : cdD σ a = 1 := by rw [cdD, h2]; rfl
    have := hq.2 (by omega) h (Kp.rf hS)
    rw [e] at this; exact this
theorem ok_keptM (hd : 5 ≤ d) (hS : Std h.2.2) (V : VS σ) (m : MA σ h) (cr : CRt σ h0) (hq : MR h (cdD σ a) (vKept σ h0 a) F) : OKi d mX12_kept [.ref 91, .int a] h F X := by
  have hD := V.d.2
  have kk : Kp scm h (hI h 91 0 0) := k0 (Kp.rf hS)
  have mk := m.km kk
  refine enX12_kept _ hd hS (ok_isDeedM (by omega) kk.1 V mk.mc ⟨fun z => ok_failsM (n := 1) (by omega) kk (by rw [cdD, bI_0.mp z]; rfl) (by decide) hq, fun z => ?_⟩)
  have h2 := bI_n0.mp z
  have e : cdD σ a = 0 := by rw [cdD, h2]; rfl
  have fin := hq
  obtain ⟨j, alj, ej, hj⟩ := isD_t V h2
  rw [e, ej, vKept, nI_clamp (by omega)] at fin
  subst ej
  refine ok_keepOfM (by omega) kk.1 V mk cr hj fun q f => fin q _ (kk.tr (f.km kk.1)) ?_ fun _ => rfl
  rw [f.i 91 0, hI_k]; rfl
end LETKEEP
