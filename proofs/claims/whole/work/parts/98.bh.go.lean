/-! going on -/
section GOON
variable {σ h h0 q : Hp} {d : Nat} {X : String → Hp → Prop} {F : Int32 → Hp → Prop} {G : Hp → Prop} {x : Int32}
def stTime (σ : Hp) (x : Int32) : Hp := hI σ 91 1 (σ.1 91 1 + x)
def goB (s h : Hp) (k : Nat) : Bool := al s k && (!decide (kpO s h k = -1) && decide (kpO s h k ≤ s.1 91 1 - s.1 101 k))
def goS (σ h : Hp) : Nat → Hp × Nat
  | 0 => (σ, 0)
  | k + 1 => if goB (goS σ h k).1 h k = true then (stForget (goS σ h k).1 k, (goS σ h k).2 + 1) else goS σ h k
theorem VZ.cg {σ' : Hp} (Z : VZ σ) (e : nM σ' = nM σ) (e7 : ∀ j, σ'.1 107 j = σ.1 107 j) : VZ σ' := fun b hb2 m h1 h2 => by
  rw [lst, e7]; exact Z b hb2 m (by rw [← e]; exact h1) h2
theorem goS_ok (V : VS σ) (Z : VZ σ) (cr : CRt σ h) : ∀ k, VS (goS σ h k).1 ∧ VZ (goS σ h k).1 ∧ CRt (goS σ h k).1 h ∧ Fr [105, 109, 110, 111] [(91, 7)] σ (goS σ h k).1 ∧ (goS σ h k).2 ≤ k
  | 0 => ⟨V, Z, cr, Fr.rf, Nat.le_refl _⟩
  | k + 1 => by
    obtain ⟨h1, h2, h3, h4, h5⟩ := goS_ok V Z cr k
    by_cases b : goB (goS σ h k).1 h k = true
    · rw [goS, if_pos b]
      have ha : al (goS σ h k).1 k = true := by
        rw [goB, Bool.and_eq_true] at b; exact b.1
      have f : Fr [105, 109, 110, 111] [(91, 7)] (goS σ h k).1 (stForget (goS σ h k).1 k) := stForget_fr
      refine ⟨VS_forget h1 ha, h2.cg ?_ (f.i 107), h3.sg (f.i 91 79) fun j => ⟨f.i 138 j, f.i 140 j⟩, h4.tr f, by show _ + 1 ≤ _; omega⟩
      show nM (stForget (goS σ h k).1 k) = _
      rw [nM, nM, f.i 91 3]
    · rw [goS, if_neg b]
      exact ⟨h1, h2, h3, h4, by omega⟩
theorem kpO_eq {a : Nat} (e : EqR q h) : kpO σ q a = kpO σ h a := e.kp _
theorem isD_al {k : Nat} (V : VS σ) (hk : k < nD σ) : isD σ (nI k) = al σ k := by
  have hD := V.d.2
  rw [isD, isN_nI (by omega) hk, Bool.true_and, nI_clamp (by omega)]
theorem ok_dropOutdated (hd : 6 ≤ d) (hS : Std q.2.2) (V : VS σ) (Z : VZ σ) (c : CS σ q) (cr : CRt σ h) (e0 : EqR q h) (e65 : q.1 65 0 = h.1 65 0) (hq : ∀ g, Fr [13, 14, 17, 19, 20, 21, 71, 72] [(8, 11), (8, 13), (18, 0)] q g → CS (goS σ h (nD σ)).1 g → F (nI (goS σ h (nD σ)).2) g) : OKi d mX11_dropOutdated [.ref 0] q F X := by
  have hD := V.d.2
  have go : ∀ (n k : Nat) (g : Hp), k + n = nD σ → Fr [13, 14, 17, 19, 20, 21, 71, 72] [(8, 11), (8, 13), (18, 0)] q g → CS (goS σ h k).1 g → E mX11_dropOutdated 5 0 0 4 [(0, .ref 0), (1, .int (nI (goS σ h k).2)), (2, .int (nI k))] [] g (Qi F) X := by
    intro n
    induction n with
    | zero =>
      intro k g e f cg
      have : k = nD σ := by omega
      subst this
      obtain ⟨h1, h2, h3, h4, h5⟩ := goS_ok V Z cr (nD σ)
      have eD : nD (goS σ h (nD σ)).1 = nD σ := congrArg Int32.toNatClampNeg (h4.i 91 6)
      exact sgX11_dropOutdated_4 _ _ (Nat.le_refl _) (f.sd hS) ⟨fun _ => hq g f cg, fun w => absurd (by rw [cg.n, eD]; exact Int32.le_refl _) w⟩
    | succ n ih =>
      intro k g e f cg
      have hk : k < nD σ := by omega
      obtain ⟨h1, h2, h3, h4, h5⟩ := goS_ok V Z cr k
      have eD : nD (goS σ h k).1 = nD σ := congrArg Int32.toNatClampNeg (h4.i 91 6)
      have skip : goB (goS σ h k).1 h k = false → ∀ g, Fr [13, 14, 17, 19, 20, 21, 71, 72] [(8, 11), (8, 13), (18, 0)] q g → CS (goS σ h k).1 g → E mX11_dropOutdated 5 0 0 4 [(0, .ref 0), (1, .int (nI (goS σ h k).2)), (2, .int (nI (k + 1)))] [] g (Qi F) X := fun b g f cg => by
        have es : goS σ h (k + 1) = goS σ h k := by rw [goS, b, if_neg (by decide)]
        have := ih (k + 1) g (by omega) f (by rw [es]; exact cg)
        rw [es] at this; exact this
      refine sgX11_dropOutdated_4 _ _ (Nat.le_refl _) (f.sd hS) ⟨fun w => absurd w (by rw [cg.n, eD]; exact nI_ge hk (by omega)), fun _ => ok_isDeedC (by omega) (f.sd hS) h1 cg.1 ?_⟩
      rw [isD_al h1 (by omega), nI_1 k]
      refine ⟨fun z => skip (by rw [goB, bI_0.mp z, Bool.false_and]) g f cg, fun z => ?_⟩
      have ha := bI_n0.mp z
      have eg : EqR g h := fun j => ⟨(f.i 66 j).trans (e0 j).1, (f.i 67 j).trans (e0 j).2.1, (f.i 68 j).trans (e0 j).2.2.1, (f.i 69 j).trans (e0 j).2.2.2.1, (f.i 70 j).trans (e0 j).2.2.2.2⟩
      have cg2 : CRt (goS σ h k).1 g := h3.hc ((f.i 65 0).trans e65) eg
      refine ok_keepOfC (by omega) (f.sd hS) h1 h2 cg cg2 ha fun g2 f2 => ?_
      have f3 : Fr [13, 14, 17, 19, 20, 21, 71, 72] [(8, 11), (8, 13), (18, 0)] q g2 := f.tr f2.mono
      have cg3 : CS (goS σ h k).1 g2 := cg.kc (f2.kc (f.sd hS))
      rw [kpO_eq eg, nI_clamp (by omega), cg3.2.2.1.1, (cg3.1.de (al_lt ha)).2.2.2]
      refine ⟨fun w => skip (by rw [goB, decide_eq_true w]; exact Bool.and_false _) g2 f3 cg3, fun w => ⟨vin (by omega), fun w2 => skip ?_ g2 f3 cg3, fun w2 => ok_dropC (by omega) (f3.sd hS) h1 cg3 ha fun g4 f4 cg4 => ?_⟩⟩
      · rw [goB, decide_eq_false (Int32.not_le.mpr w2), Bool.and_false, Bool.and_false]
      · have b : goB (goS σ h k).1 h k = true := by rw [goB, ha, decide_eq_false w, decide_eq_true (Int32.not_lt.mp w2)]; rfl
        have es : goS σ h (k + 1) = (stForget (goS σ h k).1 k, (goS σ h k).2 + 1) := by rw [goS, if_pos b]
        have := ih (k + 1) g4 (by omega) (f3.tr f4.mono) (by rw [es]; exact cg4)
        rw [es] at this
        rw [nI_1]; exact this
  exact enX11_dropOutdated hd hS (go _ 0 q (Nat.zero_add _) Fr.rf c)
/-- cells that going on does not write -/
def KL2 (h q : Hp) : Prop := Std q.2.2 ∧ ∀ c k, (c = 0 ∨ 30 ≤ c) → c ≠ 71 → c ≠ 72 → q.1 c k = h.1 c k ∧ q.2.1 c k = h.2.1 c k
def cdGo (σ : Hp) (x : Int32) : Nat := if isW x 1 10000 = true then (if σ.1 91 1 + x ≤ 99999 then 0 else 2) else 1
def nxGo (σ h : Hp) (x : Int32) : Hp := if cdGo σ x = 0 then (goS (stTime σ x) h (nD σ)).1 else σ
def vGo (σ h : Hp) (x : Int32) : Int32 := nI (goS (stTime σ x) h (nD σ)).2
theorem VS_time (V : VS σ) : VS (stTime σ x) := V
theorem VZ_time (Z : VZ σ) : VZ (stTime σ x) := Z
theorem CRt_time (c : CRt σ h) : CRt (stTime σ x) h := c
theorem VX_go (V : VS σ) (Z : VZ σ) (N : VN σ) (cr : CRt σ h) : VS (nxGo σ h x) ∧ VZ (nxGo σ h x) ∧ VN (nxGo σ h x) ∧ CRt (nxGo σ h x) h ∧ Fr [105, 109, 110, 111] [(91, 7), (91, 1)] σ (nxGo σ h x) := by
  obtain ⟨h1, h2, h3, h4, h5⟩ := goS_ok (VS_time (x := x) V) (VZ_time Z) (CRt_time cr) (nD σ)
  rw [nxGo]
  by_cases e : cdGo σ x = 0
  · rw [if_pos e]
    have f1 : Fr [105, 109, 110, 111] [(91, 7), (91, 1)] σ (stTime σ x) := Fr.pI
    refine ⟨h1, h2, ?_, h3, f1.tr h4.mono⟩
    obtain ⟨n, hn, en⟩ := N
    rw [cdGo] at e
    by_cases w : isW x 1 10000 = true
    · rw [if_pos w] at e
      have w2 : isW x 0 10000 = true := by
        rw [isW, Bool.and_eq_true, decide_eq_true_eq, decide_eq_true_eq] at w ⊢
        refine ⟨?_, w.2⟩
        have := w.1
        rw [fa_le] at *
        have a1 : (1 : Int32).toInt = 1 := rfl
        have a0 : (0 : Int32).toInt = 0 := rfl
        omega
      obtain ⟨i, hi, ei⟩ := isW_n (n := 10000) (by decide) w2
      by_cases w3 : σ.1 91 1 + x ≤ 99999
      · rw [en, ei, nI_add, lit_nI 99999] at w3
        have := (nI_leI (by omega) (by omega)).mp w3
        refine ⟨n + i, this, ?_⟩
        rw [h4.i 91 1, stTime, hI_k, en, ei, nI_add]
      · rw [if_neg w3] at e; omega
    · rw [if_neg w] at e; omega
  · rw [if_neg e]
    exact ⟨V, Z, N, cr, Fr.rf⟩
theorem ok_goC (hd : 7 ≤ d) (hS : Std h.2.2) (V : VS σ) (Z : VZ σ) (c : CS σ h) (cr : CRt σ h) (hq : (cdGo σ x = 0 → ∀ q, KL2 h q → CS (nxGo σ h x) q → F (vGo σ h x) q) ∧ (cdGo σ x ≠ 0 → X (t2 iae ise (cdGo σ x)) h)) : OKi d mX11_go [.ref 0, .int x] h F X := by
  have no : isW x 1 10000 = false → X iae h := fun z => by
    have e : cdGo σ x = 1 := by rw [cdGo, z]; rfl
    have := hq.2 (by omega)
    rw [e] at this; exact this
  refine enX11_go _ hd hS ⟨fun z => no ?_, fun z => ⟨fun z2 => ?_, fun z2 => no ?_⟩⟩
  · rw [isW, decide_eq_false (Int32.not_le.mpr z)]; rfl
  · have w : isW x 1 10000 = true := by rw [isW, decide_eq_true (Int32.not_lt.mp z), decide_eq_true z2]; rfl
    rw [c.2.2.1.1]
    refine ⟨fun z3 => ?_, fun z3 => ?_⟩
    · have e : cdGo σ x = 0 := by rw [cdGo, if_pos w, if_pos z3]
      have fin := hq.1 e
      rw [nxGo, if_pos e] at fin
      have c1 : CS (stTime σ x) (hI h 1 0 (σ.1 91 1 + x)) := ⟨c.1, c.2.1, ⟨by rw [hI_k, stTime, hI_k], c.2.2.1.2⟩, c.2.2.2⟩
      refine ok_dropOutdated (σ := stTime σ x) (h := h) (by omega) hS V Z c1 cr (fun j => ⟨rfl, rfl, rfl, rfl, rfl⟩) rfl fun g f cg => fin g ⟨f.sd hS, fun ce k h1 h2 h3 => ?_⟩ cg
      have nw : inW [13, 14, 17, 19, 20, 21, 71, 72] [(8, 11), (8, 13), (18, 0)] ce k = false := by
        simp only [inW, Bool.or_eq_false_iff, List.contains_eq_mem, decide_eq_false_iff_not]
        refine ⟨fun y => ?_, fun y => ?_⟩
        · simp only [List.mem_cons, List.not_mem_nil, or_false] at y; omega
        · simp only [List.mem_cons, List.not_mem_nil, or_false, Prod.mk.injEq] at y; omega
      have := f.2 ce k nw
      rw [hI_c (by omega)] at this
      exact this
    · have e : cdGo σ x = 2 := by rw [cdGo, if_pos w, if_neg z3]
      have := hq.2 (by omega)
      rw [e] at this; exact this
  · rw [isW, decide_eq_false z2, Bool.and_false]
theorem ok_goM (hd : 5 ≤ d) (hS : Std h.2.2) (V : VS σ) (Z : VZ σ) (m : MA σ h) (cr : CRt σ h0) (hq : MW h (nxGo σ h0 x) (cdGo σ x) (vGo σ h0 x) F) : OKi d mX12_go [.ref 91, .int x] h F X := by
  have hD := V.d.2
  have kk : Kp scm h (hI h 91 0 0) := k0 (Kp.rf hS)
  have mk := m.km kk
  refine enX12_go _ hd hS (ok_isWM (a := 1) (b := 10000) rfl rfl (by omega) kk.1 ⟨fun z => ?_, fun z => ?_⟩)
  · have e : cdGo σ x = 1 := by rw [cdGo, bI_0.mp z]; rfl
    have := hq
    rw [nxGo, e, if_neg (by decide)] at this
    exact ok_failsW (n := 1) (by omega) kk m (by decide) this
  have w := bI_n0.mp z
  rw [mk.i 91 1]
  refine ⟨fun z3 => ?_, fun z3 => ?_⟩
  · have e : cdGo σ x = 0 := by rw [cdGo, if_pos w, if_pos z3]
    have fin := hq
    rw [nxGo, if_pos e, e] at fin
    have m1 : MA (stTime σ x) (hI (hI h 91 0 0) 91 1 (σ.1 91 1 + x)) := mk.hI _ _ _
    have hS1 : Std (hI (hI h 91 0 0) 91 1 (σ.1 91 1 + x)).2.2 := kk.1
    have eD : nD (stTime σ x) = nD σ := rfl
    have go : ∀ (n k : Nat) (g : Hp), k + n = nD σ → Fr [105, 109, 110, 111, 141, 142] [(91, 7)] (hI (hI h 91 0 0) 91 1 (σ.1 91 1 + x)) g → MA (goS (stTime σ x) h0 k).1 g → E mX12_go 4 0 0 54 [(0, .ref 91), (2, .int (nI (goS (stTime σ x) h0 k).2)), (3, .int (nI k))] [] g (Qi F) X := by
      intro n
      induction n with
      | zero =>
        intro k g e2 f mg
        have : k = nD σ := by omega
        subst this
        obtain ⟨h1, h2, h3, h4, h5⟩ := goS_ok (VS_time (x := x) V) (VZ_time Z) (CRt_time cr) (nD σ)
        have f0 : Fr [105, 109, 110, 111, 141, 142] [(91, 7), (91, 0), (91, 1)] h g := Fr.tr (Fr.tr Fr.pI Fr.pI) f.mono
        refine sgX12_go_54 _ _ (Nat.le_refl _) (f.sd hS1) ⟨fun _ => fin g _ (f0.m hS) mg ?_ fun _ => rfl, fun w => absurd (by rw [mg.i 91 6, h4.i 91 6]; show σ.1 91 6 ≤ _; rw [V.d.1]; exact Int32.le_refl _) w⟩
        rw [f.i 91 0, hI_j (by decide), hI_k]; rfl
      | succ n ih =>
        intro k g e2 f mg
        have hk : k < nD σ := by omega
        obtain ⟨h1, h2, h3, h4, h5⟩ := goS_ok (VS_time (x := x) V) (VZ_time Z) (CRt_time cr) k
        have eD2 : nD (goS (stTime σ x) h0 k).1 = nD σ := congrArg Int32.toNatClampNeg (h4.i 91 6)
        have skip : goB (goS (stTime σ x) h0 k).1 h0 k = false → ∀ g, Fr [105, 109, 110, 111, 141, 142] [(91, 7)] (hI (hI h 91 0 0) 91 1 (σ.1 91 1 + x)) g → MA (goS (stTime σ x) h0 k).1 g → E mX12_go 4 0 0 54 [(0, .ref 91), (2, .int (nI (goS (stTime σ x) h0 k).2)), (3, .int (nI (k + 1)))] [] g (Qi F) X := fun b g f mg => by
          have es : goS (stTime σ x) h0 (k + 1) = goS (stTime σ x) h0 k := by rw [goS, b, if_neg (by decide)]
          have := ih (k + 1) g (by omega) f (by rw [es]; exact mg)
          rw [es] at this; exact this
        have e6 : g.1 91 6 = nI (nD σ) := by rw [mg.i 91 6, h4.i 91 6]; exact V.d.1
        refine sgX12_go_54 _ _ (Nat.le_refl _) (f.sd hS1) ⟨fun w => absurd w (by rw [e6]; exact nI_ge hk (by omega)), fun _ => ?_⟩
        rw [nI_clamp (by omega), mg.i 105, nI_1 k]
        refine ⟨vin (by omega), fun z4 => ok_keepOfM (by omega) (f.sd hS1) h1 mg h3 (by omega) fun g2 f2 => ?_, fun z4 => skip (by rw [goB, al, decide_eq_false z4, Bool.and_false, Bool.false_and]) g f mg⟩
        have ha : al (goS (stTime σ x) h0 k).1 k = true := by rw [al, decide_eq_true z4, decide_eq_true (show k < nD (goS (stTime σ x) h0 k).1 by omega)]; rfl
        have mg2 : MA (goS (stTime σ x) h0 k).1 g2 := mg.km (f2.km (f.sd hS1))
        have f3 : Fr [105, 109, 110, 111, 141, 142] [(91, 7)] (hI (hI h 91 0 0) 91 1 (σ.1 91 1 + x)) g2 := f.tr f2.mono
        rw [mg2.i 91 1, mg2.i 101]
        refine ⟨fun w => skip (by rw [goB, decide_eq_true w]; exact Bool.and_false _) g2 f3 mg2, fun w => ⟨vin (by omega), fun w2 => ok_forgets (by omega) (f3.sd hS1) h1 mg2 (by omega) fun g4 f4 mg4 => ?_, fun w2 => skip ?_ g2 f3 mg2⟩⟩
        · have b : goB (goS (stTime σ x) h0 k).1 h0 k = true := by rw [goB, ha, decide_eq_false w, decide_eq_true w2]; rfl
          have es : goS (stTime σ x) h0 (k + 1) = (stForget (goS (stTime σ x) h0 k).1 k, (goS (stTime σ x) h0 k).2 + 1) := by rw [goS, if_pos b]
          have := ih (k + 1) g4 (by omega) (f3.tr f4.mono) (by rw [es]; exact mg4)
          rw [es] at this
          rw [nI_1]; exact this
        · rw [goB, decide_eq_false w2, Bool.and_false, Bool.and_false]
    exact go _ 0 _ (Nat.zero_add _) Fr.rf m1
  · have e : cdGo σ x = 2 := by rw [cdGo, if_pos w, if_neg z3]
    have := hq
    rw [nxGo, e, if_neg (by decide)] at this
    exact ok_failsW (n := 2) (by omega) kk m (by decide) this
end GOON
