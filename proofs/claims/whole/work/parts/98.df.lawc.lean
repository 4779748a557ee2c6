/-! a call of the law: the class, the reference, compared -/
/-- class and reference are coupled -/
def Cpl (σ h : Hp) : Prop := Std h.2.2 ∧ VV σ ∧ CC σ h ∧ MA σ h
theorem xw1 {a : String} {cd : Nat} {F : Int32 → Hp → Prop} {q : Hp} (h1 : cd ≤ 1) (h0 : cd ≠ 0) (f : F (nI cd) q) : XW1 a F (t1 a cd) q := by
  have e : cd = 1 := by omega
  subst e
  exact ⟨rfl, f⟩
theorem xw2 {a b : String} {cd : Nat} {F : Int32 → Hp → Prop} {q : Hp} (h1 : cd ≤ 2) (h0 : cd ≠ 0) (f : F (nI cd) q) : XW2 a b F (t2 a b cd) q := by
  have e : cd = 1 ∨ cd = 2 := by omega
  obtain rfl | rfl := e
  · exact Or.inl ⟨rfl, f⟩
  · exact Or.inr ⟨rfl, f⟩
theorem xw3 {a b e : String} {cd : Nat} {F : Int32 → Hp → Prop} {q : Hp} (h1 : cd ≤ 3) (h0 : cd ≠ 0) (f : F (nI cd) q) : XW3 a b e F (t3 a b e cd) q := by
  have z : cd = 1 ∨ cd = 2 ∨ cd = 3 := by omega
  obtain rfl | rfl | rfl := z
  · exact Or.inl ⟨rfl, f⟩
  · exact Or.inr (Or.inl ⟨rfl, f⟩)
  · exact Or.inr (Or.inr ⟨rfl, f⟩)
section LAWC
variable {σ σ' h : Hp} {N : Hp → Prop} {μL μC μM : MI} {hh : HT} {aL aC aM : List Value} {cd : Nat} {v : Int32} {w : Int64} {tb : Nat → String} {XW : (Int32 → Hp → Prop) → String → Hp → Prop}
def wOf (σ : Hp) (cd : Nat) (x : Int64) : Int64 := if cd = 0 then x else σ.2.1 146 0
theorem MA_w {g q : Hp} {x : Int64} (ma : MA σ h) (k : KC h q) : (cd = 0 → MA (hL σ 146 0 (wOf σ cd x)) (hL q 146 0 x)) ∧ (cd ≠ 0 → MA (hL σ 146 0 (wOf σ cd x)) q) := by
  have m := ma.cc k
  refine ⟨fun e => ?_, fun e c j hc z => ⟨(m c j hc z).1, ?_⟩⟩
  · rw [wOf, if_pos e]
    exact m.hL 146 0 x
  · rw [wOf, if_neg e]
    by_cases y : c = 146
    · subst y
      rw [hL_if]
      by_cases y2 : j = 0
      · rw [if_pos y2, y2]; exact (m 146 0 (by decide) rfl).2
      · rw [if_neg y2]; exact (m 146 j hc z).2
    · rw [hL_c y]; exact (m c j hc z).2
/-- a call that answers an int or is refused -/
theorem law_i (S : Std h.2.2) (ma : MA σ h) (V' : VV σ') (h146 : σ'.2.1 146 0 = wOf σ cd v.toInt64)
    (hw : ∀ F : Int32 → Hp → Prop, OKi 40 μC aC h (fun r q => F 0 (hL q 146 0 r.toInt64)) (XW F) → OKh 41 μL hh aL h F)
    (hxw : ∀ (F : Int32 → Hp → Prop) q, cd ≠ 0 → F (nI cd) q → XW F (tb cd) q)
    (hC : ∀ (F : Int32 → Hp → Prop) X, (cd = 0 → ∀ q, KC h q → CC σ' q → F v q) → (cd ≠ 0 → ∀ q, KC h q → CC σ' q → X (tb cd) q) → OKi 40 μC aC h F X)
    (hM : ∀ (g : Hp) (F : Int32 → Hp → Prop), Std g.2.2 → MA (hL σ 146 0 (wOf σ cd v.toInt64)) g → (∀ q r, KM g q → MA σ' q → q.1 91 0 = nI cd → (cd = 0 → r = v) → F r q) → OKi 40 μM aM g F NX)
    (hcd : cd ≤ 3) (hN : ∀ g, Cpl σ' g → N g) :
    OKh 41 μL hh aL h (fun (r1 : Int32) (h2 : Hp) => OKi 40 μM aM h2 (fun (r5 : Int32) (h6 : Hp) => OKi 40 mX12_thrown [.ref 91] h6 (fun (r9 : Int32) (h10 : Hp) => ((r9 = r1 → ((r1 = 0 → (((h10.2.1 146 0) = r5.toInt64 → N h10) ∧ (¬ (h10.2.1 146 0) = r5.toInt64 → False))) ∧ (¬ r1 = 0 → N h10))) ∧ (¬ r9 = r1 → False))) NX) NX) := by
  refine hw _ (hC _ _ (fun e q k c => ?_) fun e q k c => hxw _ q e ?_)
  · have k1 : Std (hL q 146 0 v.toInt64).2.2 := k.1
    refine hM _ _ k1 ((MA_w (g := q) ma k).1 e) fun q2 r km m2 e0 er => enX12_thrown (by decide) km.1 ?_
    have n2 : N q2 := hN q2 ⟨km.1, V', c.out.mm km, m2⟩
    have x1 : q2.2.1 146 0 = v.toInt64 := by rw [m2.l 146 0, h146, wOf, if_pos e]
    rw [e0, e, er e]
    exact ⟨fun _ => ⟨fun _ => ⟨fun _ => n2, fun z => z x1⟩, fun z => absurd rfl z⟩, fun z => z rfl⟩
  · refine hM _ _ k.1 ((MA_w (g := q) ma k).2 e) fun q2 r km m2 e0 er => enX12_thrown (by decide) km.1 ?_
    have n2 : N q2 := hN q2 ⟨km.1, V', c.mm km, m2⟩
    have n0 : ¬ nI cd = 0 := fun z => e (nI_inj (b := 0) (by omega) (by omega) z)
    rw [e0]
    exact ⟨fun _ => ⟨fun z => absurd z n0, fun _ => n2⟩, fun z => z rfl⟩
/-- a call that answers a boolean or is refused -/
def cvB (r : Int32) : Int64 := if r = 0 then 0 else 1
theorem law_b (S : Std h.2.2) (ma : MA σ h) (V' : VV σ') (h146 : σ'.2.1 146 0 = wOf σ cd (cvB v))
    (hw : ∀ F : Int32 → Hp → Prop, OKi 40 μC aC h (fun r q => ((r = 0 → F 0 (hL q 146 0 0)) ∧ (¬ r = 0 → F 0 (hL q 146 0 1)))) (XW F) → OKh 41 μL hh aL h F)
    (hxw : ∀ (F : Int32 → Hp → Prop) q, cd ≠ 0 → F (nI cd) q → XW F (tb cd) q)
    (hC : ∀ (F : Int32 → Hp → Prop) X, (cd = 0 → ∀ q, KC h q → CC σ' q → F v q) → (cd ≠ 0 → ∀ q, KC h q → CC σ' q → X (tb cd) q) → OKi 40 μC aC h F X)
    (hM : ∀ (g : Hp) (F : Int32 → Hp → Prop), Std g.2.2 → MA (hL σ 146 0 (wOf σ cd (cvB v))) g → (∀ q r, KM g q → MA σ' q → q.1 91 0 = nI cd → (cd = 0 → r = v) → F r q) → OKi 40 μM aM g F NX)
    (hcd : cd ≤ 3) (hN : ∀ g, Cpl σ' g → N g) :
    OKh 41 μL hh aL h (fun (r1 : Int32) (h2 : Hp) => OKi 40 μM aM h2 (fun (r5 : Int32) (h6 : Hp) => OKi 40 mX12_thrown [.ref 91] h6 (fun (r9 : Int32) (h10 : Hp) => ((r9 = r1 → ((r1 = 0 → ((r5 = 0 → (((h10.2.1 146 0) = 0 → N h10) ∧ (¬ (h10.2.1 146 0) = 0 → False))) ∧ (¬ r5 = 0 → (((h10.2.1 146 0) = 1 → N h10) ∧ (¬ (h10.2.1 146 0) = 1 → False))))) ∧ (¬ r1 = 0 → N h10))) ∧ (¬ r9 = r1 → False))) NX) NX) := by
  have fin : cd = 0 → ∀ q2 r, Std q2.2.2 → CC σ' q2 → MA σ' q2 → q2.1 91 0 = nI cd → (cd = 0 → r = v) → OKi 40 mX12_thrown [.ref 91] q2 (fun (r9 : Int32) (h10 : Hp) => ((r9 = 0 → (((0 : Int32) = 0 → ((r = 0 → (((h10.2.1 146 0) = 0 → N h10) ∧ (¬ (h10.2.1 146 0) = 0 → False))) ∧ (¬ r = 0 → (((h10.2.1 146 0) = 1 → N h10) ∧ (¬ (h10.2.1 146 0) = 1 → False))))) ∧ (¬ (0 : Int32) = 0 → N h10))) ∧ (¬ r9 = 0 → False))) NX := fun e q2 r S2 c2 m2 e0 er => by
    refine enX12_thrown (by decide) S2 ?_
    have n2 : N q2 := hN q2 ⟨S2, V', c2, m2⟩
    have x1 : q2.2.1 146 0 = cvB v := by rw [m2.l 146 0, h146, wOf, if_pos e]
    rw [e0, e, er e]
    refine ⟨fun _ => ⟨fun _ => ⟨fun z => ?_, fun z => ?_⟩, fun z => absurd rfl z⟩, fun z => z rfl⟩
    · rw [cvB, if_pos z] at x1
      exact ⟨fun _ => n2, fun z => z x1⟩
    · rw [cvB, if_neg z] at x1
      exact ⟨fun _ => n2, fun z => z x1⟩
  refine hw _ (hC _ _ (fun e q k c => ?_) fun e q k c => hxw _ q e ?_)
  · refine ⟨fun z => ?_, fun z => ?_⟩
    · have x0 : cvB v = 0 := if_pos z
      have m := (MA_w (x := cvB v) (g := q) ma k).1 e
      rw [x0] at m
      have k1 : Std (hL q 146 0 0).2.2 := k.1
      exact hM _ _ k1 (by rw [x0]; exact m) fun q2 r km m2 e0 er => fin e q2 r km.1 (c.out.mm km) m2 e0 er
    · have x0 : cvB v = 1 := if_neg z
      have m := (MA_w (x := cvB v) (g := q) ma k).1 e
      rw [x0] at m
      have k1 : Std (hL q 146 0 1).2.2 := k.1
      exact hM _ _ k1 (by rw [x0]; exact m) fun q2 r km m2 e0 er => fin e q2 r km.1 (c.out.mm km) m2 e0 er
  · refine hM _ _ k.1 ((MA_w (g := q) ma k).2 e) fun q2 r km m2 e0 er => enX12_thrown (by decide) km.1 ?_
    have n2 : N q2 := hN q2 ⟨km.1, V', c.mm km, m2⟩
    have n0 : ¬ nI cd = 0 := fun z => e (nI_inj (b := 0) (by omega) (by omega) z)
    rw [e0]
    exact ⟨fun _ => ⟨fun z => absurd z n0, fun _ => n2⟩, fun z => z rfl⟩
/-- a call without an answer -/
theorem law_v (S : Std h.2.2) (ma : MA σ h) (V' : VV σ')
    (hw : ∀ F : Int32 → Hp → Prop, OKv 40 μC aC h (fun q => F 0 q) (XW F) → OKh 41 μL hh aL h F)
    (hxw : ∀ (F : Int32 → Hp → Prop) q, cd ≠ 0 → F (nI cd) q → XW F (tb cd) q)
    (hC : ∀ (G : Hp → Prop) X, (cd = 0 → ∀ q, KC h q → CC σ' q → G q) → (cd ≠ 0 → ∀ q, KC h q → CC σ' q → X (tb cd) q) → OKv 40 μC aC h G X)
    (hM : ∀ (g : Hp) (G : Hp → Prop), Std g.2.2 → MA σ g → (∀ q, KM g q → MA σ' q → q.1 91 0 = nI cd → G q) → OKv 40 μM aM g G NX)
    (hN : ∀ g, Cpl σ' g → N g) :
    OKh 41 μL hh aL h (fun (r1 : Int32) (h2 : Hp) => OKv 40 μM aM h2 (fun (h6 : Hp) => OKi 40 mX12_thrown [.ref 91] h6 (fun (r9 : Int32) (h10 : Hp) => ((r9 = r1 → N h10) ∧ (¬ r9 = r1 → False))) NX) NX) := by
  have go : ∀ (k0 : Int32), nI cd = k0 → ∀ q, KC h q → CC σ' q → OKv 40 μM aM q (fun (h6 : Hp) => OKi 40 mX12_thrown [.ref 91] h6 (fun (r9 : Int32) (h10 : Hp) => ((r9 = k0 → N h10) ∧ (¬ r9 = k0 → False))) NX) NX := fun k0 ek q k c => by
    refine hM _ _ k.1 (ma.cc k) fun q2 km m2 e0 => enX12_thrown (by decide) km.1 ?_
    have n2 : N q2 := hN q2 ⟨km.1, V', c.mm km, m2⟩
    rw [e0, ek]
    exact ⟨fun _ => n2, fun z => z rfl⟩
  exact hw _ (hC _ _ (fun e q k c => go 0 (by rw [e]; rfl) q k c) fun e q k c => hxw _ q e (go _ rfl q k c))
/-- a call whose answers are compared at once -/
theorem law_d (S : Std h.2.2) (ma : MA σ h) (V' : VV σ')
    (hC : ∀ F : Int32 → Hp → Prop, (∀ q, KC h q → CC σ' q → F v q) → OKi 40 μC aC h F NX)
    (hM : ∀ (g : Hp) (F : Int32 → Hp → Prop), Std g.2.2 → MA σ g → (∀ q, KM g q → MA σ' q → F v q) → OKi 40 μM aM g F NX)
    (hN : ∀ g, Cpl σ' g → N g) :
    OKi 40 μC aC h (fun (r1 : Int32) (h2 : Hp) => OKi 40 μM aM h2 (fun (r5 : Int32) (h6 : Hp) => ((r1 = r5 → N h6) ∧ (¬ r1 = r5 → False))) NX) NX :=
  hC _ fun q k c => hM _ _ k.1 (ma.cc k) fun q2 km m2 => ⟨fun _ => hN q2 ⟨km.1, V', c.mm km, m2⟩, fun z => z rfl⟩
/-- what only reads -/
theorem law_R (cp : Cpl σ h)
    (hw : ∀ F : Int32 → Hp → Prop, OKi 40 μC aC h (fun r q => F 0 (hL q 146 0 r.toInt64)) (XW F) → OKh 41 μL hh aL h F)
    (hxw : ∀ (F : Int32 → Hp → Prop) q, cd ≠ 0 → F (nI cd) q → XW F (tb cd) q)
    (hC : ∀ (F : Int32 → Hp → Prop) X, CR h cd v tb F X → OKi 40 μC aC h F X)
    (hM : ∀ (g : Hp) (F : Int32 → Hp → Prop), Std g.2.2 → MC σ g → g.1 91 36 = -1 → MR g cd v F → OKi 40 μM aM g F NX)
    (hcd : cd ≤ 3) (hN : ∀ τ g, Cpl τ g → N g) :
    OKh 41 μL hh aL h (fun (r1 : Int32) (h2 : Hp) => OKi 40 μM aM h2 (fun (r5 : Int32) (h6 : Hp) => OKi 40 mX12_thrown [.ref 91] h6 (fun (r9 : Int32) (h10 : Hp) => ((r9 = r1 → ((r1 = 0 → (((h10.2.1 146 0) = r5.toInt64 → N h10) ∧ (¬ (h10.2.1 146 0) = r5.toInt64 → False))) ∧ (¬ r1 = 0 → N h10))) ∧ (¬ r9 = r1 → False))) NX) NX) := by
  obtain ⟨S, v0, cc, ma⟩ := cp
  refine law_i (σ' := hL σ 146 0 (wOf σ cd v.toInt64)) S ma v0.out hL_k hw hxw (fun F X z0 z1 => hC F X ⟨fun e q k => z0 e q k.c (cc.kc k).so, fun e q k => z1 e q k.c (cc.kc k).so⟩) (fun g F Sg m z => hM g F Sg m.mc ((m.i 91 36).trans v0.2.2.2.2.2) fun q r k e0 er => z q r k.m (m.km k) e0 er) hcd (hN _)
theorem law_Rb (cp : Cpl σ h)
    (hw : ∀ F : Int32 → Hp → Prop, OKi 40 μC aC h (fun r q => ((r = 0 → F 0 (hL q 146 0 0)) ∧ (¬ r = 0 → F 0 (hL q 146 0 1)))) (XW F) → OKh 41 μL hh aL h F)
    (hxw : ∀ (F : Int32 → Hp → Prop) q, cd ≠ 0 → F (nI cd) q → XW F (tb cd) q)
    (hC : ∀ (F : Int32 → Hp → Prop) X, CR h cd v tb F X → OKi 40 μC aC h F X)
    (hM : ∀ (g : Hp) (F : Int32 → Hp → Prop), Std g.2.2 → MA (hL σ 146 0 (wOf σ cd (cvB v))) g → g.1 91 36 = -1 → MR g cd v F → OKi 40 μM aM g F NX)
    (hcd : cd ≤ 3) (hN : ∀ τ g, Cpl τ g → N g) :
    OKh 41 μL hh aL h (fun (r1 : Int32) (h2 : Hp) => OKi 40 μM aM h2 (fun (r5 : Int32) (h6 : Hp) => OKi 40 mX12_thrown [.ref 91] h6 (fun (r9 : Int32) (h10 : Hp) => ((r9 = r1 → ((r1 = 0 → ((r5 = 0 → (((h10.2.1 146 0) = 0 → N h10) ∧ (¬ (h10.2.1 146 0) = 0 → False))) ∧ (¬ r5 = 0 → (((h10.2.1 146 0) = 1 → N h10) ∧ (¬ (h10.2.1 146 0) = 1 → False))))) ∧ (¬ r1 = 0 → N h10))) ∧ (¬ r9 = r1 → False))) NX) NX) := by
  obtain ⟨S, v0, cc, ma⟩ := cp
  refine law_b (σ' := hL σ 146 0 (wOf σ cd (cvB v))) S ma v0.out hL_k hw hxw (fun F X z0 z1 => hC F X ⟨fun e q k => z0 e q k.c (cc.kc k).so, fun e q k => z1 e q k.c (cc.kc k).so⟩) (fun g F Sg m z => hM g F Sg m ((m.i 91 36).trans v0.2.2.2.2.2) fun q r k e0 er => z q r k.m (m.km k) e0 er) hcd (hN _)
end LAWC
