/-! rights asked: names, lines, let and keep -/
section LINES
variable {σ h h0 : Hp} {d : Nat} {X : String → Hp → Prop} {F : Int32 → Hp → Prop} {G : Hp → Prop} {ν : Nat → Int64}
def RefV (ν : Nat → Int64) (σ : Hp) (a e : Nat) (v : Int64) : Prop := ∃ n, OkR ν (σ.1 138) e 64 n (a, []) (e, [v])
def ClsV (ν : Nat → Int64) (h : Hp) (a e : Nat) (v : Int64) : Prop := runC ν (h.1 70) a (e - a) [] = [v]
def EqN (ν' ν : Nat → Int64) : Prop := ∀ i, i < 7 → ν' i = ν i
theorem EqN.rf : EqN ν ν := fun _ _ => rfl
/-- a line, as class and reference hold it -/
def LnO (σ h : Hp) (k : Nat) : Prop := ∃ a b e a' b' e', (a ≤ b ∧ b ≤ e ∧ e ≤ 300 ∧ a' ≤ b' ∧ b' ≤ e' ∧ e' ≤ 500) ∧
  (h.1 67 k = nI a ∧ h.1 68 k = nI b ∧ h.1 69 k = nI e ∧ σ.1 140 (4 * k + 1) = nI a' ∧ σ.1 140 (4 * k + 2) = nI b' ∧ σ.1 140 (4 * k + 3) = nI e') ∧
  (h.1 66 k = σ.1 140 (4 * k) ∧ (σ.1 140 (4 * k) = 0 ∨ σ.1 140 (4 * k) = 1 ∨ σ.1 140 (4 * k) = 2)) ∧
  (σ.1 140 (4 * k) = 2 → ∀ ν, ∃ v, ∀ ν', EqN ν' ν → ClsV ν' h a b v ∧ RefV ν' σ a' b' v) ∧ ((b = e ∧ b' = e') ∨ (b < e ∧ b' < e' ∧ ∀ ν, ∃ v, ∀ ν', EqN ν' ν → ClsV ν' h b e v ∧ RefV ν' σ b' e' v))
def nN (σ : Hp) : Nat := (σ.1 91 79).toNatClampNeg
def CRt (σ h : Hp) : Prop := (σ.1 91 79 = nI (nN σ) ∧ nN σ ≤ 12) ∧ h.1 65 0 = nI (nN σ) ∧ ∀ k, k < nN σ → LnO σ h k
/-- a line's test, its sum -/
def tsC (ν : Nat → Int64) (h : Hp) (k : Nat) : Bool := decide (h.1 69 k ≤ h.1 68 k) || !decide (runC ν (h.1 70) (h.1 68 k).toNatClampNeg ((h.1 69 k).toNatClampNeg - (h.1 68 k).toNatClampNeg) [] = [0])
def smC (ν : Nat → Int64) (h : Hp) (k : Nat) : Int64 := (runC ν (h.1 70) (h.1 67 k).toNatClampNeg ((h.1 68 k).toNatClampNeg - (h.1 67 k).toNatClampNeg) []).getD 0 0
def letV (ν : Nat → Int64) (h : Hp) : Nat → Bool
  | 0 => false
  | k + 1 => if (!decide (h.1 66 k = 2) && tsC ν h k) = true then decide (h.1 66 k = 0) else letV ν h k
def cutK (v : Int64) : Int32 := (if (if v < (99999 : Int64) then v else (99999 : Int64)) < (1 : Int64) then (1 : Int64) else (if v < (99999 : Int64) then v else (99999 : Int64))).toInt32
def keepV (ν : Nat → Int64) (h : Hp) : Nat → Int32
  | 0 => -1
  | k + 1 => if (decide (h.1 66 k = 2) && tsC ν h k) = true then cutK (smC ν h k) else keepV ν h k
/-- the reference's search of the last line -/
def lnR (ν : Nat → Int64) (h0 : Hp) (x y : Int32) : Nat → Int32
  | 0 => -1
  | k + 1 => if ((decide (h0.1 66 k = x) || decide (h0.1 66 k = y)) && tsC ν h0 k) = true then nI k else lnR ν h0 x y k
theorem LnO.hc {q : Hp} {k : Nat} (l : LnO σ h k) (e1 : ∀ j, q.1 66 j = h.1 66 j ∧ q.1 67 j = h.1 67 j ∧ q.1 68 j = h.1 68 j ∧ q.1 69 j = h.1 69 j ∧ q.1 70 j = h.1 70 j) : LnO σ q k := by
  have e70 : q.1 70 = h.1 70 := funext fun j => (e1 j).2.2.2.2
  obtain ⟨a, b, e, a', b', e', z1, z2, z3, z4, z5⟩ := l
  refine ⟨a, b, e, a', b', e', z1, ?_, ?_, ?_, ?_⟩
  · rw [(e1 k).2.1, (e1 k).2.2.1, (e1 k).2.2.2.1]; exact z2
  · rw [(e1 k).1]; exact z3
  · unfold ClsV; rw [e70]; exact z4
  · unfold ClsV; rw [e70]; exact z5
theorem CRt.hc {q : Hp} (c : CRt σ h) (e0 : q.1 65 0 = h.1 65 0) (e1 : ∀ j, q.1 66 j = h.1 66 j ∧ q.1 67 j = h.1 67 j ∧ q.1 68 j = h.1 68 j ∧ q.1 69 j = h.1 69 j ∧ q.1 70 j = h.1 70 j) : CRt σ q := ⟨c.1, by rw [e0]; exact c.2.1, fun k hk => (c.2.2 k hk).hc e1⟩
theorem CRt.sg {σ' : Hp} (c : CRt σ h) (e0 : σ'.1 91 79 = σ.1 91 79) (e1 : ∀ j, σ'.1 138 j = σ.1 138 j ∧ σ'.1 140 j = σ.1 140 j) : CRt σ' h := by
  have en : nN σ' = nN σ := by rw [nN, nN, e0]
  have e138 : σ'.1 138 = σ.1 138 := funext fun j => (e1 j).1
  refine ⟨by rw [en, e0]; exact c.1, by rw [en]; exact c.2.1, fun k hk => ?_⟩
  rw [en] at hk
  obtain ⟨a, b, e, a', b', e', z1, z2, z3, z4, z5⟩ := c.2.2 k hk
  refine ⟨a, b, e, a', b', e', z1, ?_, ?_, ?_, ?_⟩
  · rw [(e1 _).2, (e1 _).2, (e1 _).2]; exact z2
  · rw [(e1 _).2]; exact z3
  · unfold RefV; rw [(e1 _).2, e138]; exact z4
  · unfold RefV; rw [e138]; exact z5
theorem ok_holds {k : Nat} (hd : 3 ≤ d) (hS : Std h.2.2) (hk : k < 12) (l : LnO σ h k) (hν : ν = h.2.1 71) (hq : ∀ q, Fr [72] [] h q → F (bI (tsC ν h k)) q) : OKi d mX7_holds [.ref 65, .int (nI k)] h F X := by
  subst hν
  obtain ⟨a, b, e, a', b', e', ⟨z1, z2, z3, _⟩, ⟨e67, e68, e69, _⟩, _, _, z5⟩ := l
  have et : tsC (h.2.1 71) h k = (decide (nI e ≤ nI b) || !decide (runC (h.2.1 71) (h.1 70) b (e - b) [] = [0])) := by rw [tsC, e68, e69, nI_clamp (by omega), nI_clamp (by omega)]
  refine OKi.up hd (oki_of 2 (by decide +kernel) (Nat.le_of_ble_eq_true rfl) (sgX7_holds_0 _ (Nat.le_refl _) hS ?_))
  rw [nI_clamp (by omega), e68, e69]
  refine ⟨vin (by omega), vin (by omega), fun w => ?_, fun w => ⟨vin (by omega), vin (by omega), ?_⟩⟩
  · have := hq h Fr.rf
    rw [et, decide_eq_true w] at this; exact this
  · rw [decide_eq_false w, Bool.false_or] at et
    have hlt : b < e := by
      refine Classical.byContradiction fun y => w (nI_le (by omega) (by omega))
    obtain z5 | ⟨_, _, z5⟩ := z5
    · omega
    obtain ⟨v, hv⟩ := z5 (h.2.1 71)
    have hv := (hv _ EqN.rf).1
    have hv : runC (h.2.1 71) (h.1 70) b (e - b) [] = [v] := hv
    refine ok_work (by omega) hS (by omega) (by omega) hv fun q f => ⟨fun y => ?_, fun y => ?_⟩
    · have := hq q f
      rw [et, hv, decide_eq_true (by rw [y])] at this; exact this
    · have := hq q f
      rw [et, hv, decide_eq_false (fun y2 => y (by injection y2))] at this; exact this
theorem LnO.ts {ν' : Nat → Int64} {k : Nat} (l : LnO σ h k) (e : EqN ν' ν) : tsC ν' h k = tsC ν h k := by
  obtain ⟨a, b, e', a', b', e2', ⟨w1, w2, w3, _⟩, ⟨e67, e68, e69, _⟩, _, _, z5⟩ := l
  have et : ∀ μ, tsC μ h k = (decide (nI e' ≤ nI b) || !decide (runC μ (h.1 70) b (e' - b) [] = [0])) := fun μ => by rw [tsC, e68, e69, nI_clamp (by omega), nI_clamp (by omega)]
  rw [et, et]
  obtain z5 | ⟨_, _, z5⟩ := z5
  · rw [z5.1, decide_eq_true (Int32.le_refl _), Bool.true_or, Bool.true_or]
  · obtain ⟨v, hv⟩ := z5 ν
    have h1 : runC ν (h.1 70) b (e' - b) [] = [v] := (hv ν EqN.rf).1
    have h2 : runC ν' (h.1 70) b (e' - b) [] = [v] := (hv ν' e).1
    rw [h1, h2]
theorem LnO.sm {ν' : Nat → Int64} {k : Nat} (l : LnO σ h k) (e : EqN ν' ν) (h2 : h.1 66 k = 2) : smC ν' h k = smC ν h k := by
  obtain ⟨a, b, e', a', b', e2', ⟨w1, w2, w3, _⟩, ⟨e67, e68, e69, _⟩, ⟨w4, _⟩, w5, _⟩ := l
  obtain ⟨v, hv⟩ := w5 (by rw [← w4]; exact h2) ν
  have h1 : runC ν (h.1 70) a (b - a) [] = [v] := (hv ν EqN.rf).1
  have h2 : runC ν' (h.1 70) a (b - a) [] = [v] := (hv ν' e).1
  rw [smC, smC, e67, e68, nI_clamp (by omega), nI_clamp (by omega), h1, h2]
theorem CRt.lt {ν' : Nat → Int64} (c : CRt σ h) (e : EqN ν' ν) : ∀ k, k ≤ nN σ → letV ν' h k = letV ν h k
  | 0, _ => rfl
  | k + 1, hk => by rw [letV, letV, (c.2.2 k (by omega)).ts e, c.lt e k (by omega)]
theorem CRt.kp {ν' : Nat → Int64} (c : CRt σ h) (e : EqN ν' ν) : ∀ k, k ≤ nN σ → keepV ν' h k = keepV ν h k
  | 0, _ => rfl
  | k + 1, hk => by
    rw [keepV, keepV, (c.2.2 k (by omega)).ts e, c.kp e k (by omega)]
    by_cases q : (decide (h.1 66 k = 2) && tsC ν h k) = true
    · rw [if_pos q, if_pos q]
      rw [Bool.and_eq_true, decide_eq_true_eq] at q
      rw [(c.2.2 k (by omega)).sm e q.1]
    · rw [if_neg q, if_neg q]
theorem CRt.ln {ν' : Nat → Int64} {x y : Int32} (c : CRt σ h) (e : EqN ν' ν) : ∀ k, k ≤ nN σ → lnR ν' h x y k = lnR ν h x y k
  | 0, _ => rfl
  | k + 1, hk => by rw [lnR, lnR, (c.2.2 k (by omega)).ts e, c.ln e k (by omega)]
theorem CRt.fr72 {q : Hp} (c : CRt σ h) (f : Fr [72] [] h q) : CRt σ q := c.hc (f.i 65 0) fun j => ⟨f.i 66 j, f.i 67 j, f.i 68 j, f.i 69 j, f.i 70 j⟩
theorem tsC_fr {q : Hp} {k : Nat} (f : Fr [72] [] h q) : tsC ν q k = tsC ν h k := by
  have e70 : q.1 70 = h.1 70 := funext fun j => f.i 70 j
  rw [tsC, tsC, f.i 69, f.i 68, e70]
theorem ok_lets (hd : 4 ≤ d) (hS : Std h.2.2) (c : CRt σ h) (hν : ν = h.2.1 71) (hq : ∀ q, Fr [72] [] h q → F (bI (letV ν h (nN σ))) q) : OKi d mX7_lets [.ref 65] h F X := by
  have n12 := c.1.2
  have go : ∀ (k : Nat) (q : Hp), k ≤ nN σ → Fr [72] [] h q → letV ν h (nN σ) = letV ν h k → E mX7_lets 3 0 0 7 [(0, .ref 65), (1, .int (nI k - 1))] [] q (Qi F) X := by
    intro k
    induction k with
    | zero =>
      intro q hk f e
      have fin := hq q f
      rw [e] at fin
      exact sgX7_lets_7 _ (Nat.le_refl _) (f.sd hS) ⟨fun _ => fin, fun z => absurd (by decide) z⟩
    | succ k ih =>
      intro q hk f e
      have l := c.2.2 k (by omega)
      have lq := (c.fr72 f).2.2 k (by omega)
      have hνq : ν = q.2.1 71 := by rw [hν]; exact funext fun j => (f.l 71 j).symm
      rw [nI_s1]
      have em : nI k + (-1 : Int32) = nI k - 1 := by
        rw [Int32.sub_eq_add_neg]
      have step : (!decide (h.1 66 k = 2) && tsC ν h k) = false → letV ν h (nN σ) = letV ν h k := fun hz => by rw [e, letV, hz, if_neg (by decide)]
      refine sgX7_lets_7 _ (Nat.le_refl _) (f.sd hS) ⟨fun z => absurd z (nI_pos (by omega)), fun _ => ?_⟩
      rw [nI_clamp (by omega), f.i 66, em]
      refine ⟨vin (by omega), fun z => ih q (by omega) f (step (by rw [decide_eq_true z]; rfl)), fun z => ok_holds (by omega) (f.sd hS) (by omega) lq hνq fun q2 f2 => ?_⟩
      rw [tsC_fr f]
      refine ⟨fun z2 => ih q2 (by omega) (f.tr f2) (step (by rw [bI_0.mp z2, Bool.and_false])), fun z2 => ⟨vin (by omega), ?_⟩⟩
      have fin := hq q2 (f.tr f2)
      rw [e, letV, decide_eq_false z, bI_n0.mp z2, if_pos (show (!false && true) = true from rfl)] at fin
      rw [f2.i 66, f.i 66]
      exact ⟨fun z3 => by rw [decide_eq_true z3] at fin; exact fin, fun z3 => by rw [decide_eq_false z3] at fin; exact fin⟩
  refine OKi.up hd (oki_of 3 (by decide +kernel) (Nat.le_of_ble_eq_true rfl) (sgX7_lets_0 (Nat.le_refl _) hS ?_))
  rw [c.2.1]
  exact go (nN σ) h (Nat.le_refl _) Fr.rf rfl
theorem ok_keeps (hd : 4 ≤ d) (hS : Std h.2.2) (c : CRt σ h) (hν : ν = h.2.1 71) (hq : ∀ q, Fr [72] [] h q → F (keepV ν h (nN σ)) q) : OKi d mX7_keeps [.ref 65] h F X := by
  have n12 := c.1.2
  have go : ∀ (k : Nat) (q : Hp), k ≤ nN σ → Fr [72] [] h q → keepV ν h (nN σ) = keepV ν h k → E mX7_keeps 3 0 0 7 [(0, .ref 65), (1, .int (nI k - 1))] [] q (Qi F) X := by
    intro k
    induction k with
    | zero =>
      intro q hk f e
      have fin := hq q f
      rw [e] at fin
      exact sgX7_keeps_7 _ (Nat.le_refl _) (f.sd hS) ⟨fun _ => fin, fun z => absurd (by decide) z⟩
    | succ k ih =>
      intro q hk f e
      have lq := (c.fr72 f).2.2 k (by omega)
      have hνq : ν = q.2.1 71 := by rw [hν]; exact funext fun j => (f.l 71 j).symm
      rw [nI_s1]
      have em : nI k + (-1 : Int32) = nI k - 1 := by
        rw [Int32.sub_eq_add_neg]
      have step : (decide (h.1 66 k = 2) && tsC ν h k) = false → keepV ν h (nN σ) = keepV ν h k := fun hz => by rw [e, keepV, hz, if_neg (by decide)]
      refine sgX7_keeps_7 _ (Nat.le_refl _) (f.sd hS) ⟨fun z => absurd z (nI_pos (by omega)), fun _ => ?_⟩
      rw [nI_clamp (by omega), f.i 66, em]
      refine ⟨vin (by omega), fun z => ok_holds (by omega) (f.sd hS) (by omega) lq hνq fun q2 f2 => ?_, fun z => ih q (by omega) f (step (by rw [decide_eq_false z]; rfl))⟩
      rw [tsC_fr f]
      refine ⟨fun z2 => ih q2 (by omega) (f.tr f2) (step (by rw [bI_0.mp z2, Bool.and_false])), fun z2 => ⟨vin (by omega), vin (by omega), ?_⟩⟩
      have f3 := f.tr f2
      have hνq2 : ν = q2.2.1 71 := by rw [hν]; exact funext fun j => (f3.l 71 j).symm
      obtain ⟨a, b, e', a', b', e2', ⟨w1, w2, w3, _⟩, ⟨e67, e68, e69, _⟩, ⟨w4, _⟩, w5, _⟩ := c.2.2 k (by omega)
      obtain ⟨v, hv⟩ := w5 (by rw [← w4]; exact z) ν
      have hv := (hv _ EqN.rf).1
      have hv : runC ν (h.1 70) a (b - a) [] = [v] := hv
      have e70 : q2.1 70 = h.1 70 := funext fun j => f3.i 70 j
      rw [f3.i 67, f3.i 68, e67, e68]
      refine ok_work (v := v) (by omega) (f3.sd hS) w1 (by omega) (by rw [← hνq2, e70]; exact hv) fun q4 f4 => ?_
      have fin := hq q4 (f3.tr f4)
      rw [e, keepV, decide_eq_true z, bI_n0.mp z2, if_pos (show (true && true) = true from rfl), smC, e67, e68, nI_clamp (by omega), nI_clamp (by omega), hv] at fin
      exact fin
  refine OKi.up hd (oki_of 3 (by decide +kernel) (Nat.le_of_ble_eq_true rfl) (sgX7_keeps_0 (Nat.le_refl _) hS ?_))
  rw [c.2.1]
  exact go (nN σ) h (Nat.le_refl _) Fr.rf rfl
theorem ok_lineOf {x y : Int32} (hd : 3 ≤ d) (hS : Std h.2.2) (m : MA σ h) (c : CRt σ h0) (hν : ν = h.2.1 141) (hq : ∀ q, Fr [142] [] h q → F (lnR ν h0 x y (nN σ)) q) : OKi d mX12_lineOf [.ref 91, .int x, .int y] h F X := by
  have n12 := c.1.2
  have go : ∀ (k : Nat) (q : Hp), k ≤ nN σ → Fr [142] [] h q → lnR ν h0 x y (nN σ) = lnR ν h0 x y k → E mX12_lineOf 2 0 0 7 [(0, .ref 91), (1, .int x), (2, .int y), (3, .int (nI k - 1))] [] q (Qi F) X := by
    intro k
    induction k with
    | zero =>
      intro q hk f e
      have fin := hq q f
      rw [e] at fin
      exact sgX12_lineOf_7 _ _ _ (Nat.le_refl _) (f.sd hS) ⟨fun _ => fin, fun z => absurd (by decide) z⟩
    | succ k ih =>
      intro q hk f e
      have mq : MA σ q := m.km (f.km hS)
      have hνq : ν = q.2.1 141 := by rw [hν]; exact funext fun j => (f.l 141 j).symm
      have e138 : q.1 138 = σ.1 138 := funext fun j => mq.i 138 j
      obtain ⟨a, b, e', a', b', e2', ⟨w1, w2, w3, w4, w5, w6⟩, ⟨e67, e68, e69, e141, e142, e143⟩, ⟨e66, _⟩, _, z5⟩ := c.2.2 k (by omega)
      have et : tsC ν h0 k = (decide (nI e' ≤ nI b) || !decide (runC ν (h0.1 70) b (e' - b) [] = [0])) := by rw [tsC, e68, e69, nI_clamp (by omega), nI_clamp (by omega)]
      rw [nI_s1]
      have em : nI k + (-1 : Int32) = nI k - 1 := by
        rw [Int32.sub_eq_add_neg]
      have l0 : (4 : Int32) * nI k = nI (4 * k) := by rw [lit_nI 4, pk_mul]
      have l2 : (4 : Int32) * nI k + 2 = nI (4 * k + 2) := by rw [l0, lit_nI 2, nI_add]
      have l3 : (4 : Int32) * nI k + 3 = nI (4 * k + 3) := by rw [l0, lit_nI 3, nI_add]
      have s92 : ((decide (h0.1 66 k = x) || decide (h0.1 66 k = y)) && tsC ν h0 k) = false → ∀ q2, Fr [142] [] h q2 → E mX12_lineOf 2 0 0 92 [(0, .ref 91), (1, .int x), (2, .int y), (3, .int (nI k))] [] q2 (Qi F) X := fun hz q2 f2 => by
        refine sgX12_lineOf_92 _ _ _ (Nat.le_refl _) (f2.sd hS) ?_
        rw [em]
        exact ih q2 (by omega) f2 (by rw [e, lnR, hz, if_neg (by decide)])
      have s38 : (decide (h0.1 66 k = x) || decide (h0.1 66 k = y)) = true → E mX12_lineOf 2 0 0 38 [(0, .ref 91), (1, .int x), (2, .int y), (3, .int (nI k))] [] q (Qi F) X := fun hx => by
        have s90 : tsC ν h0 k = true → ∀ q2, Fr [142] [] h q2 → E mX12_lineOf 2 0 0 90 [(3, .int (nI k))] [] q2 (Qi F) X := fun ht q2 f2 => by
          have fin := hq q2 f2
          rw [e, lnR, hx, ht, if_pos (show (true && true) = true from rfl)] at fin
          exact sgX12_lineOf_90 _ (Nat.le_refl _) (f2.sd hS) fin
        refine sgX12_lineOf_38 _ _ _ (Nat.le_refl _) (f.sd hS) ?_
        rw [l2, l3, nI_clamp (by omega), nI_clamp (by omega), mq.i 140, mq.i 140, e142, e143]
        refine ⟨vin (by omega), vin (by omega), fun v => ?_, fun v => ⟨vin (by omega), vin (by omega), ?_⟩⟩
        · have eq := nI_inj (by omega) (by omega) v
          obtain z5 | z5 := z5
          · exact s90 (by rw [et, z5.1, decide_eq_true (Int32.le_refl _)]; rfl) q f
          · omega
        · have ne : b' ≠ e2' := fun y2 => v (by rw [y2])
          obtain z5 | ⟨z6, z7, z8⟩ := z5
          · omega
          obtain ⟨r, hr⟩ := z8 ν
          obtain ⟨hr, nr, hrr⟩ := hr _ EqN.rf
          have hr : runC ν (h0.1 70) b (e' - b) [] = [r] := hr
          rw [decide_eq_false (nI_ge z6 (by omega)), Bool.false_or, hr] at et
          refine ok_worked (n := nr) (v := r) (by omega) (f.sd hS) (by omega) (by rw [← hνq, e138]; exact hrr) fun q2 f2 => ⟨fun y2 => s92 ?_ q2 (f.tr f2), fun y2 => s90 ?_ q2 (f.tr f2)⟩
          · have e0 : ([r] : List Int64) = [0] := by rw [y2]
            rw [et, decide_eq_true e0, Bool.not_true, Bool.and_false]
          · rw [et, decide_eq_false (fun y3 => y2 (by injection y3))]; rfl
      refine sgX12_lineOf_7 _ _ _ (Nat.le_refl _) (f.sd hS) ⟨fun z => absurd z (nI_pos (by omega)), fun _ => ?_⟩
      rw [l0, nI_clamp (by omega), mq.i 140, ← e66]
      refine ⟨vin (by omega), fun z => s38 (by rw [decide_eq_true z]; rfl), fun z => ⟨vin (by omega), fun z2 => s38 (by rw [decide_eq_true z2, Bool.or_true]), fun z2 => s92 (by rw [decide_eq_false z, decide_eq_false z2]; rfl) q f⟩⟩
  refine OKi.up hd (oki_of 2 (by decide +kernel) (Nat.le_of_ble_eq_true rfl) (sgX12_lineOf_0 _ _ (Nat.le_refl _) hS ?_))
  rw [m.i 91 79, c.1.1]
  exact go (nN σ) h (Nat.le_refl _) Fr.rf rfl
theorem lnR_let : ∀ k, (∀ j, j < k → h0.1 66 j = 0 ∨ h0.1 66 j = 1 ∨ h0.1 66 j = 2) → (lnR ν h0 0 1 k = -1 ∧ letV ν h0 k = false) ∨ ∃ j, j < k ∧ lnR ν h0 0 1 k = nI j ∧ letV ν h0 k = decide (h0.1 66 j = 0)
  | 0, _ => Or.inl ⟨rfl, rfl⟩
  | k + 1, hs => by
    have e : (decide (h0.1 66 k = 0) || decide (h0.1 66 k = 1)) = !decide (h0.1 66 k = 2) := by
      obtain z | z | z := hs k (by omega) <;> rw [z] <;> rfl
    rw [lnR, letV, e]
    by_cases q : (!decide (h0.1 66 k = 2) && tsC ν h0 k) = true
    · rw [if_pos q, if_pos q]; exact Or.inr ⟨k, by omega, rfl, rfl⟩
    · rw [if_neg q, if_neg q]
      obtain z | ⟨j, h1, h2⟩ := lnR_let k fun j hj => hs j (by omega)
      · exact Or.inl z
      · exact Or.inr ⟨j, by omega, h2⟩
theorem lnR_keep : ∀ k, (lnR ν h0 2 2 k = -1 ∧ keepV ν h0 k = -1) ∨ ∃ j, j < k ∧ lnR ν h0 2 2 k = nI j ∧ h0.1 66 j = 2 ∧ keepV ν h0 k = cutK (smC ν h0 j)
  | 0 => Or.inl ⟨rfl, rfl⟩
  | k + 1 => by
    rw [lnR, keepV, Bool.or_self]
    by_cases q : (decide (h0.1 66 k = 2) && tsC ν h0 k) = true
    · rw [if_pos q, if_pos q]
      rw [Bool.and_eq_true, decide_eq_true_eq] at q
      exact Or.inr ⟨k, by omega, rfl, q.1, rfl⟩
    · rw [if_neg q, if_neg q]
      obtain z | ⟨j, h1, h2⟩ := lnR_keep k
      · exact Or.inl z
      · exact Or.inr ⟨j, by omega, h2⟩
end LINES
/-! names -/
section NAMED
variable {σ h h0 : Hp} {d : Nat} {X : String → Hp → Prop} {F : Int32 → Hp → Prop} {G : Hp → Prop}
/-- states of marks that are not there -/
def VZ (σ : Hp) : Prop := ∀ b, b < 60 → ∀ m, nM σ ≤ m → m < 16 → lst σ b m = 0
def nuF (σ : Hp) (rank : Int32) (own : Bool) (a : Nat) (i : Nat) : Int64 :=
  if i = 0 then rank.toInt64 else if i = 1 then (bI own).toInt64 else if i = 2 then (σ.1 91 1 - σ.1 101 a).toInt64 else if i = 3 then (bI (sol σ a)).toInt64 else if i = 4 then (bI (dbt σ a)).toInt64 else
  if i = 5 then lN (thr (lst σ) a (nM σ)) else if i = 6 then lN (lnk σ (nI a) (nL σ)) else 0
theorem thr_16 (V : VS σ) (Z : VZ σ) {a : Nat} (ha : a < 60) : thr (lst σ) a 16 = thr (lst σ) a (nM σ) := by
  have hM := V.m.2
  have e : 16 = nM σ + (16 - nM σ) := by omega
  rw [e, thr, fb_ct_split]
  have : fb_ct (fun k => decide (lst σ a (nM σ + k) = 2)) (16 - nM σ) = 0 := fb_ct_zero.mpr fun k hk => decide_eq_false (by rw [Z a ha _ (by omega) (by omega)]; decide)
  rw [this]; rfl
theorem ok_nameFor {a : Nat} {rank : Int32} {own : Bool} (hd : 3 ≤ d) (hS : Std h.2.2) (V : VS σ) (Z : VZ σ) (c : CS σ h) (ha : al σ a = true) (hq : ∀ q, Fr [71] [] h q → (∀ i, i < 7 → q.2.1 71 i = nuF σ rank own a i) → G q) : OKv d mX11_nameFor [.ref 0, .int (nI a), .int rank, .int (bI own)] h G X := by
  have hD := V.d.2
  have hLk := V.l.2
  have haD := al_lt ha
  have tl : thr (lst σ) a 16 ≤ 16 := fb_ct_le _ _
  have ll : lnk σ (nI a) (nL σ) ≤ nL σ := fb_ct_le _ _
  refine OKv.up hd (okv_of 2 (by decide +kernel) (Nat.le_of_ble_eq_true rfl) (sgX11_nameFor_0 _ _ _ (Nat.le_refl _) hS ?_))
  rw [nI_clamp (by omega), c.2.2.1.1, (c.1.de haD).2.2.2]
  generalize hg : hL (hL (hL h 71 0 rank.toInt64) 71 1 (bI own).toInt64) 71 2 ((σ.1 91 1) - (σ.1 101 a)).toInt64 = g
  have f1 : Fr [71] [] h g := by rw [← hg]; exact Fr.tr (Fr.tr Fr.pL Fr.pL) Fr.pL
  have g0 : g.2.1 71 0 = rank.toInt64 := by rw [← hg, hL_j (by decide), hL_j (by decide), hL_k]
  have g1 : g.2.1 71 1 = (bI own).toInt64 := by rw [← hg, hL_j (by decide), hL_k]
  have g2 : g.2.1 71 2 = ((σ.1 91 1) - (σ.1 101 a)).toInt64 := by rw [← hg, hL_k]
  have s88 : ∀ (x3 x4 : Int64), x3 = (bI (sol σ a)).toInt64 → x4 = (bI (dbt σ a)).toInt64 → E mX11_nameFor 2 0 0 88 [(0, .ref 0), (1, .int (nI a)), (4, .ref 71)] [.long x4, .int 4, .ref 71] (hL g 71 3 x3) (Qv G) X := fun x3 x4 h3 h4 => by
    have f3 : Fr [71] [] h (hL g 71 3 x3) := f1.tr Fr.pL
    have f4 : Fr [71] [] h (hL (hL g 71 3 x3) 71 4 x4) := f3.tr Fr.pL
    refine sgX11_nameFor_88 _ _ _ (Nat.le_refl _) (f3.sd hS) ⟨vin (show 4 < 7 by decide), ?_⟩
    show OKi 2 mX8_thereIn [.ref 22, .int (nI a)] (hL (hL g 71 3 x3) 71 4 x4) _ X
    refine ok_thereIn (w := lst σ) shok_22 (by omega) (f4.sd hS) (c.2.2.2.2.1.frr f4) (by omega) ?_
    have f5 : Fr [71] [] h (hL (hL (hL g 71 3 x3) 71 4 x4) 71 5 (nI (thr (lst σ) a 16)).toInt64) := f4.tr Fr.pL
    refine ok_with (by omega) (f5.sd hS) V (c.2.2.2.1.fr f5) (hq _ (f5.tr Fr.pL) fun i hi => ?_)
    have ci : i = 0 ∨ i = 1 ∨ i = 2 ∨ i = 3 ∨ i = 4 ∨ i = 5 ∨ i = 6 := by omega
    obtain rfl | rfl | rfl | rfl | rfl | rfl | rfl := ci
    · rw [hL_j (by decide), hL_j (by decide), hL_j (by decide), hL_j (by decide), g0]; rfl
    · rw [hL_j (by decide), hL_j (by decide), hL_j (by decide), hL_j (by decide), g1]; rfl
    · rw [hL_j (by decide), hL_j (by decide), hL_j (by decide), hL_j (by decide), g2]; rfl
    · rw [hL_j (by decide), hL_j (by decide), hL_j (by decide), hL_k, h3]; rfl
    · rw [hL_j (by decide), hL_j (by decide), hL_k, h4]; rfl
    · rw [hL_j (by decide), hL_k, thr_16 V Z (by omega), nI_l (by have := fb_ct_le (fun m => decide (lst σ a m = 2)) (nM σ); have := V.m.2; unfold thr; omega)]; rfl
    · rw [hL_k, nI_l (by omega)]; rfl
  have s65 : ∀ (x3 : Int64), x3 = (bI (sol σ a)).toInt64 → E mX11_nameFor 2 0 0 65 [(0, .ref 0), (1, .int (nI a)), (4, .ref 71)] [.long x3, .int 3, .ref 71] g (Qv G) X := fun x3 h3 => by
    have f3 : Fr [71] [] h (hL g 71 3 x3) := f1.tr Fr.pL
    refine sgX11_nameFor_65 _ _ _ (Nat.le_refl _) (f1.sd hS) ⟨vin (show 3 < 7 by decide), ?_⟩
    show OKi 2 mX11_has [.long (g.2.1 8 12), .int (nI a)] (hL g 71 3 x3) _ X
    refine ok_has (by omega) (f3.sd hS) (by omega) ?_
    rw [f1.l 8 12, c.1.dbt, decide_eq_true haD, Bool.true_and]
    exact ⟨fun z => s88 x3 0 h3 (by rw [bI_0.mp z]; rfl), fun z => s88 x3 1 h3 (by rw [bI_n0.mp z]; rfl)⟩
  refine ⟨vin (by omega), ok_has (by omega) (f1.sd hS) (by omega) ?_⟩
  rw [c.1.sol, ha, Bool.true_and]
  exact ⟨fun z => s65 0 (by rw [bI_0.mp z]; rfl), fun z => s65 1 (by rw [bI_n0.mp z]; rfl)⟩
/-- the reference's names: of an officer, or of none -/
def ownO (σ : Hp) (o : Int32) (a : Nat) : Bool := !decide (o = -1) && decide (σ.1 96 o.toNatClampNeg = σ.1 94 (plc σ a))
def rkO (σ : Hp) (o : Int32) : Int32 := if o = -1 then 0 else σ.1 97 o.toNatClampNeg
theorem ok_names {a : Nat} {o : Int32} (hd : 2 ≤ d) (hS : Std h.2.2) (V : VS σ) (mc : MC σ h) (ha : a < nD σ) (ho : o = -1 ∨ isN o (nO σ) = true) (hq : ∀ q, Fr [141] [] h q → (∀ i, i < 7 → q.2.1 141 i = nuF σ (rkO σ o) (ownO σ o a) a i) → G q) : OKv d mX12_names [.ref 91, .int o, .int (nI a)] h G X := by
  have hD := V.d.2
  have hLk := V.l.2
  have hM := V.m.2
  have hO := V.o.2
  have hP := V.p.2
  have dp := (V.de ha).1
  have ll : lnk σ (nI a) (nL σ) ≤ nL σ := fb_ct_le _ _
  have n1 : ∀ j : Nat, j < 10 → ¬ nI j = -1 := fun j hj => nI_neg (by omega)
  have s94 : ∀ (g : Hp) (x : Int64), Fr [141] [] h g → g.2.1 141 0 = (rkO σ o).toInt64 → g.2.1 141 1 = (bI (ownO σ o a)).toInt64 → g.2.1 141 2 = (σ.1 91 1 - σ.1 101 a).toInt64 → x = (bI (sol σ a)).toInt64 → E mX12_names 1 0 0 94 [(0, .ref 91), (2, .int (nI a))] [.long x, .int 3, .ref 141] g (Qv G) X := fun g x f g0 g1 g2 h3 => by
    have f3 : Fr [141] [] h (hL g 141 3 x) := f.tr Fr.pL
    have s114 : ∀ y : Int64, y = (bI (dbt σ a)).toInt64 → E mX12_names 1 0 0 114 [(0, .ref 91), (2, .int (nI a))] [.long y, .int 4, .ref 141] (hL g 141 3 x) (Qv G) X := fun y h4 => by
      have f4 : Fr [141] [] h (hL (hL (hL g 141 3 x) 141 4 y) 141 5 0) := (f3.tr Fr.pL).tr Fr.pL
      have go : ∀ (n k : Nat) (q : Hp), k + n = nM σ → Fr [141] [] h q → (∀ i, i < 5 → q.2.1 141 i = nuF σ (rkO σ o) (ownO σ o a) a i) → q.2.1 141 5 = lN (thr (lst σ) a k) → E mX12_names 1 0 0 124 [(0, .ref 91), (2, .int (nI a)), (3, .int (nI k))] [] q (Qv G) X := by
        intro n
        induction n with
        | zero =>
          intro k q e fq I I5
          have : k = nM σ := by omega
          subst this
          have mq := mc.fr fq
          refine sgX12_names_124 _ _ (Nat.le_refl _) (fq.sd hS) ⟨fun _ => ok_linksOfM (by omega) (fq.sd hS) V mq (hq _ (fq.tr Fr.pL) fun i hi => ?_), fun w => absurd (by rw [mq.i 91 3, V.m.1]; exact Int32.le_refl _) w⟩
          by_cases z : i = 6
          · rw [z, hL_k, nI_l (by omega)]; rfl
          · rw [hL_j z]
            by_cases z2 : i = 5
            · rw [z2, I5]; rfl
            · exact I i (by omega)
        | succ n ih =>
          intro k q e fq I I5
          have hk : k < nM σ := by omega
          have mq := mc.fr fq
          have s159 : ∀ w : Int64, w = (if decide (lst σ a k = 2) = true then 1 else 0) → E mX12_names 1 0 0 159 [(0, .ref 91), (2, .int (nI a)), (3, .int (nI k))] [.long w, .long (lN (thr (lst σ) a k)), .int 5, .ref 141] q (Qv G) X := fun w hw => by
            refine sgX12_names_159 _ _ _ _ _ (Nat.le_refl _) (fq.sd hS) ⟨vin (show 5 < 7 by decide), ?_⟩
            rw [nI_1]
            refine ih (k + 1) _ (by omega) (fq.tr Fr.pL) (fun i hi => ?_) ?_
            · show (hL q 141 5 _).2.1 141 i = _
              rw [hL_j (by omega)]; exact I i hi
            · show (hL q 141 5 _).2.1 141 5 = _
              have e2 : thr (lst σ) a (k + 1) = thr (lst σ) a k + (if decide (lst σ a k = 2) = true then 1 else 0) := fb_ct_succ _ _
              rw [hL_k, hw, e2]
              split
              · exact lN_add _ 1
              · exact Int64.add_zero _
          refine sgX12_names_124 _ _ (Nat.le_refl _) (fq.sd hS) ⟨fun w => absurd w (by rw [mq.i 91 3, V.m.1]; exact nI_ge hk (by omega)), fun _ => ?_⟩
          rw [lit_16, nI_clamp (by omega), mq.i 107, I5]
          exact ⟨vin (by omega), fun w => s159 1 (by rw [decide_eq_true (show lst σ a k = 2 from w)]; rfl), fun w => s159 0 (by rw [decide_eq_false (show ¬ lst σ a k = 2 from w)]; rfl)⟩
      refine sgX12_names_114 _ _ _ (Nat.le_refl _) (f3.sd hS) ⟨vin (show 4 < 7 by decide), go (nM σ) 0 _ (Nat.zero_add _) f4 (fun i hi => ?_) hL_k⟩
      show (hL (hL (hL g 141 3 x) 141 4 y) 141 5 0).2.1 141 i = _
      have ci : i = 0 ∨ i = 1 ∨ i = 2 ∨ i = 3 ∨ i = 4 := by omega
      obtain rfl | rfl | rfl | rfl | rfl := ci
      · rw [hL_j (by decide), hL_j (by decide), hL_j (by decide), g0]; rfl
      · rw [hL_j (by decide), hL_j (by decide), hL_j (by decide), g1]; rfl
      · rw [hL_j (by decide), hL_j (by decide), hL_j (by decide), g2]; rfl
      · rw [hL_j (by decide), hL_j (by decide), hL_k, h3]; rfl
      · rw [hL_j (by decide), hL_k, h4]; rfl
    refine sgX12_names_94 _ _ _ (Nat.le_refl _) (f.sd hS) ⟨vin (show 3 < 7 by decide), vin (by omega), ?_⟩
    rw [nI_clamp (by omega), (mc.fr f).i 104]
    exact ⟨fun w => s114 0 (by rw [dbt, decide_eq_true w]; rfl), fun w => s114 1 (by rw [dbt, decide_eq_false w]; rfl)⟩
  have s57 : ∀ (g : Hp) (x : Int64), Fr [141] [] h g → g.2.1 141 0 = (rkO σ o).toInt64 → x = (bI (ownO σ o a)).toInt64 → E mX12_names 1 0 0 57 [(0, .ref 91), (2, .int (nI a))] [.long x, .int 1, .ref 141] g (Qv G) X := fun g x f g0 h1 => by
    refine sgX12_names_57 _ _ _ (Nat.le_refl _) (f.sd hS) ⟨vin (show 1 < 7 by decide), vin (by omega), ?_⟩
    rw [nI_clamp (by omega), (mc.fr f).i 91 1, (mc.fr f).i 101]
    have f2 : Fr [141] [] h (hL (hL g 141 1 x) 141 2 (σ.1 91 1 - σ.1 101 a).toInt64) := (f.tr Fr.pL).tr Fr.pL
    show OKi 1 mX12_isSolved [.ref 91, .int (nI a)] (hL (hL g 141 1 x) 141 2 (σ.1 91 1 - σ.1 101 a).toInt64) _ X
    have b0 : (hL (hL g 141 1 x) 141 2 (σ.1 91 1 - σ.1 101 a).toInt64).2.1 141 0 = (rkO σ o).toInt64 := by rw [hL_j (by decide), hL_j (by decide), g0]
    have b1 : (hL (hL g 141 1 x) 141 2 (σ.1 91 1 - σ.1 101 a).toInt64).2.1 141 1 = (bI (ownO σ o a)).toInt64 := by rw [hL_j (by decide), hL_k, h1]
    exact ok_isSolvedM (by omega) (f2.sd hS) V (mc.fr f2) (by omega) ⟨fun w => s94 _ 0 f2 b0 b1 hL_k (by rw [bI_0.mp w]; rfl), fun w => s94 _ 1 f2 b0 b1 hL_k (by rw [bI_n0.mp w]; rfl)⟩
  have s56 : ∀ (g : Hp), Fr [141] [] h g → g.2.1 141 0 = (rkO σ o).toInt64 → ownO σ o a = false → E mX12_names 1 0 0 56 [(0, .ref 91), (2, .int (nI a))] [.int 1, .ref 141] g (Qv G) X := fun g f g0 h1 =>
    sgX12_names_56 _ _ (Nat.le_refl _) (f.sd hS) (s57 g 0 f g0 (by rw [h1]; rfl))
  have s21 : ∀ x : Int64, x = (rkO σ o).toInt64 → E mX12_names 1 0 0 21 [(0, .ref 91), (1, .int o), (2, .int (nI a))] [.long x, .int 0, .ref 141] h (Qv G) X := fun x hx => by
    have f1 : Fr [141] [] h (hL h 141 0 x) := Fr.pL
    have b0 : (hL h 141 0 x).2.1 141 0 = (rkO σ o).toInt64 := by rw [hL_k, hx]
    refine sgX12_names_21 _ _ _ _ (Nat.le_refl _) hS ⟨vin (show 0 < 7 by decide), fun w => s56 _ f1 b0 (by rw [ownO, decide_eq_true w]; rfl), fun w => ?_⟩
    obtain z | z := ho
    · exact absurd z w
    · obtain ⟨j, hj, ej⟩ := isN_t (by omega) z
      have eo : ownO σ o a = decide (σ.1 96 j = σ.1 94 (plc σ a)) := by rw [ownO, decide_eq_false w, ej, nI_clamp (by omega)]; rfl
      rw [ej, nI_clamp (by omega), nI_clamp (by omega), mc.i 98, dp.1, nI_clamp (by omega), mc.i 96, mc.i 94]
      exact ⟨vin (by omega), vin (by omega), vin (by omega), fun v => s57 _ 1 f1 b0 (by rw [eo, decide_eq_true v]; rfl), fun v => s56 _ f1 b0 (by rw [eo, decide_eq_false v])⟩
  refine OKv.up hd (okv_of 1 (by decide +kernel) (Nat.le_of_ble_eq_true rfl) (sgX12_names_0 _ _ (Nat.le_refl _) hS ⟨fun w => s21 0 (by rw [rkO, if_pos w]; rfl), fun w => ?_⟩))
  obtain z | z := ho
  · exact absurd z w
  · obtain ⟨j, hj, ej⟩ := isN_t (by omega) z
    have er : rkO σ o = σ.1 97 j := by rw [rkO, if_neg w, ej, nI_clamp (by omega)]
    rw [er] at s21
    rw [ej, nI_clamp (by omega), mc.i 97]
    rw [ej] at s21
    exact ⟨vin (by omega), s21 _ rfl⟩
end NAMED
