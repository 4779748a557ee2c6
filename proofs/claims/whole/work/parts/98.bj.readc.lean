/-! rights read: the class's reader -/
section READC
variable {K V : Nat → Int32} {P B : Nat → Nat} {T : Nat} {h q g : Hp} {d k sz kind : Nat} {X : String → Hp → Prop} {G : Hp → Prop}
/-- the rows of tokens -/
def RdT (K V : Nat → Int32) (B : Nat → Nat) (T : Nat) (h : Hp) : Prop := h.1 73 6 = nI T ∧ T ≤ 300 ∧ K T = 16 ∧ ∀ j, j ≤ T → h.1 82 j = K j ∧ h.1 84 j = nI (B j) ∧ (K j = 15 → h.1 83 j = V j) ∧ h.1 73 2 = -1
def CRd (K V : Nat → Int32) (B : Nat → Nat) (T : Nat) (h : Hp) (k sz : Nat) : Prop := RdT K V B T h ∧ h.1 73 1 = 0 ∧ h.1 73 7 = nI k ∧ h.1 73 8 = K k ∧ h.1 74 6 = nI sz
/-- refused -/
def FRd (B : Nat → Nat) (h : Hp) (kind k : Nat) : Prop := h.1 73 8 = 18 ∧ h.1 73 1 = nI kind ∧ h.1 73 2 = nI (B k) ∧ (kind ≠ 0 ∧ kind ≤ 4) ∧ ∃ sz, sz ≤ 300 ∧ h.1 74 6 = nI sz
def FR (h q : Hp) : Prop := Fr [79] [(73, 1), (73, 2), (73, 7), (73, 8), (74, 6)] h q
theorem okT (R : RdT K V B T h) (o : OKk K k) : k ≤ T := Nat.not_lt.mp fun w => (o T w).1 R.2.2.1
theorem RdT.fr {L : List Nat} {fs : List (Nat × Nat)} (R : RdT K V B T h) (f : Fr L fs h q) (h1 : ∀ j, inW L fs 73 6 = false ∧ inW L fs 82 j = false ∧ inW L fs 83 j = false ∧ inW L fs 84 j = false ∧ inW L fs 73 2 = false := by exact fun _ => ⟨rfl, rfl, rfl, rfl, rfl⟩) : RdT K V B T q :=
  ⟨by rw [f.i 73 6 (h1 0).1]; exact R.1, R.2.1, R.2.2.1, fun j hj => ⟨by rw [f.i 82 j (h1 j).2.1]; exact (R.2.2.2 j hj).1, by rw [f.i 84 j (h1 j).2.2.2.1]; exact (R.2.2.2 j hj).2.1, fun z => by rw [f.i 83 j (h1 j).2.2.1]; exact (R.2.2.2 j hj).2.2.1 z, by rw [f.i 73 2 (h1 j).2.2.2.2]; exact (R.2.2.2 j hj).2.2.2⟩⟩
theorem ok_advC (hd : 1 ≤ d) (hS : Std h.2.2) (o : OKk K (k + 1)) (c : CRd K V B T h k sz) (hq : ∀ q, Fr [] [(73, 7), (73, 8)] h q → CRd K V B T q (k + 1) sz → G q) : OKv d mX6_advance [.ref 73] h G X := by
  have kT := okT c.1 o
  have T3 := c.1.2.1
  obtain ⟨R, c1, c2, c3, c4⟩ := c
  refine enX6_advance hd hS ⟨fun w => absurd w (by rw [R.1, c2]; exact nI_ge kT (by omega)), fun _ => ?_⟩
  rw [c2, nI_1, nI_clamp (by omega), (R.2.2.2 _ kT).1]
  have f : Fr [] [(73, 7), (73, 8)] h (hI (hI h 73 7 (nI (k + 1))) 73 8 (K (k + 1))) := Fr.tr Fr.pI Fr.pI
  exact ⟨vin (by omega), hq _ f ⟨R.fr f, c1, rfl, rfl, c4⟩⟩
theorem ok_refC (hd : 1 ≤ d) (hS : Std h.2.2) (o : OKk K k) (hz : sz ≤ k) (hk : kind ≠ 0 ∧ kind ≤ 4) (c : CRd K V B T h k sz) (hq : ∀ q, Fr [] [(73, 1), (73, 2), (73, 8)] h q → FRd B q (flR K k kind).1 k → G q) : OKv d mX6_refuse [.ref 73, .int (nI kind)] h G X := by
  have kT := okT c.1 o
  have T3 := c.1.2.1
  obtain ⟨R, c1, c2, c3, c4⟩ := c
  refine enX6_refuse _ hd hS ⟨fun _ => ?_, fun w => absurd c1 w⟩
  rw [c2, nI_clamp (by omega), (R.2.2.2 _ kT).2.1, c3]
  have f : ∀ x y : Int32, Fr [] [(73, 1), (73, 2), (73, 8)] h (hI (hI (hI h 73 1 x) 73 2 y) 73 8 18) := fun x y => Fr.tr (Fr.tr Fr.pI Fr.pI) Fr.pI
  refine ⟨fun w => ⟨vin (by omega), hq _ (f _ _) ?_⟩, fun w => ⟨vin (by omega), hq _ (f _ _) ?_⟩⟩
  · have e : (flR K k kind).1 = 1 := if_pos w
    rw [e]; exact ⟨rfl, rfl, rfl, by decide, sz, by omega, c4⟩
  · have e : (flR K k kind).1 = kind := if_neg w
    rw [e]; exact ⟨rfl, rfl, rfl, hk, sz, by omega, c4⟩
theorem ok_refF {x : Int32} (hd : 1 ≤ d) (hS : Std h.2.2) (f : FRd B h kind k) (hq : ∀ q, FR h q → FRd B q kind k → G q) : OKv d mX6_refuse [.ref 73, .int x] h G X := by
  obtain ⟨f1, f2, f3, f4, s, f5, f6⟩ := f
  exact enX6_refuse _ hd hS ⟨fun w => absurd (nI_inj (b := 0) (by omega) (by omega) (f2.symm.trans w)) f4.1, fun _ => hq _ (Fr.pI : Fr [79] [(73, 1), (73, 2), (73, 7), (73, 8), (74, 6)] h _) ⟨rfl, f2, f3, f4, s, f5, f6⟩⟩
theorem ok_expC {x : Int32} (hd : 2 ≤ d) (hS : Std h.2.2) (o : OKk K k) (hz : sz ≤ k) (hx : x ≠ 16 ∧ x ≠ 17) (c : CRd K V B T h k sz) (h1 : K k = x → ∀ q, Fr [] [(73, 7), (73, 8)] h q → CRd K V B T q (k + 1) sz → G q) (h2 : K k ≠ x → ∀ q, Fr [] [(73, 1), (73, 2), (73, 8)] h q → FRd B q (flR K k 2).1 k → G q) : OKv d mX6_expect [.ref 73, .int x] h G X := by
  refine enX6_expect _ hd hS ⟨fun w => ?_, fun w => ?_⟩
  · rw [c.2.2.2.1] at w
    exact ok_advC (by omega) hS (o.s (by rw [w]; exact hx.1) (by rw [w]; exact hx.2)) c (h1 w)
  · rw [c.2.2.2.1] at w
    exact ok_refC (kind := 2) (by omega) hS o hz (by decide) c (h2 w)
theorem ok_expF {x : Int32} (hd : 2 ≤ d) (hS : Std h.2.2) (hx : x ≠ 18) (f : FRd B h kind k) (hq : ∀ q, FR h q → FRd B q kind k → G q) : OKv d mX6_expect [.ref 73, .int x] h G X :=
  enX6_expect _ hd hS ⟨fun w => absurd (f.1.symm.trans w) (Ne.symm hx), fun _ => ok_refF (by omega) hS f hq⟩
theorem ok_emC {v : Int32} (hd : 1 ≤ d) (hS : Std h.2.2) (hz : sz < 300) (c : CRd K V B T h k sz) (hq : ∀ q, Fr [79] [(74, 6)] h q → CRd K V B T q k (sz + 1) → q.1 79 sz = v → (∀ i, i < sz → q.1 79 i = h.1 79 i) → G q) : OKv d mX7_emit [.ref 74, .int v] h G X := by
  obtain ⟨R, c1, c2, c3, c4⟩ := c
  refine enX7_emit _ hd hS ⟨fun w => absurd w (by rw [c4, lit_nI 300]; exact nI_ge hz (by omega)), fun _ => ?_⟩
  rw [c4, nI_clamp (by omega), nI_1]
  have f : Fr [79] [(74, 6)] h (hI (hI h 79 sz v) 74 6 (nI (sz + 1))) := Fr.tr Fr.pI Fr.pI
  refine ⟨vin hz, hq _ f ⟨R.fr f, c1, c2, c3, rfl⟩ ?_ fun i hi => ?_⟩
  · rw [hI_c (by decide), hI_k]
  · rw [hI_c (by decide), hI_j (by omega)]
theorem ok_emF {v : Int32} (hd : 1 ≤ d) (hS : Std h.2.2) (f : FRd B h kind k) (hq : ∀ q, FR h q → FRd B q kind k → G q) : OKv d mX7_emit [.ref 74, .int v] h G X := by
  obtain ⟨f1, f2, f3, f4, s, f5, f6⟩ := f
  refine enX7_emit _ hd hS ⟨fun w => hq h Fr.rf ⟨f1, f2, f3, f4, s, f5, f6⟩, fun w => ?_⟩
  rw [f6, lit_nI 300] at w
  have s3 : s < 300 := Nat.not_le.mp fun z => w (nI_le z (by omega))
  rw [f6, nI_clamp (by omega), nI_1]
  have fr : FR h (hI (hI h 79 s v) 74 6 (nI (s + 1))) := Fr.tr Fr.pI Fr.pI
  exact ⟨vin s3, hq _ fr ⟨f1, f2, f3, f4, s + 1, by omega, rfl⟩⟩
/-- what a reading leaves -/
def PCr (K V : Nat → Int32) (B : Nat → Nat) (T : Nat) (h : Hp) (sz : Nat) (r : RP) (q : Hp) : Prop := FR h q ∧ (r.1 = 0 → CRd K V B T q r.2.1 (sz + r.2.2.1.length) ∧ (∀ i, i < r.2.2.1.length → q.1 79 (sz + i) = r.2.2.1.getD i 0) ∧ ∀ i, i < sz → q.1 79 i = h.1 79 i) ∧ (r.1 ≠ 0 → FRd B q r.1 r.2.1)
def MOK (K V : Nat → Int32) (P B : Nat → Nat) (T d : Nat) (μ : MI) (av : List Value) (A : Nat → Nat → RP) : Prop := ∀ (h : Hp) (G : Hp → Prop) (X : String → Hp → Prop), Std h.2.2 → (∀ k sz b, OKk K k → sz ≤ k → 2 * b ≤ 3 * P k + 2 → CRd K V B T h k sz → (∀ q, PCr K V B T h sz (A k b) q → G q) → OKv d μ av h G X) ∧ (∀ kind k, FRd B h kind k → (∀ q, FR h q → FRd B q kind k → G q) → OKv d μ av h G X)
theorem MOK.up {d d' : Nat} {μ : MI} {av : List Value} {A : Nat → Nat → RP} (M : MOK K V P B T d μ av A) (hd : d ≤ d') : MOK K V P B T d' μ av A := fun h G X hS => ⟨fun k sz b o hz hb2 c hq => OKv.up hd ((M h G X hS).1 k sz b o hz hb2 c hq), fun kind k f hq => OKv.up hd ((M h G X hS).2 kind k f hq)⟩
/-- a chain of what is read -/
theorem chC {Loop : Nat → Hp → Prop} {μ : MI} {av : List Value} {A : Nat → Nat → RP} {bb : RP → Nat} {rr : RP → List Int32} {op : Int32 → Bool} {cd : Int32 → Int32} {Z : Nat → RP → RP} {dM D D' b : Nat} {t t' : Prop} (hd : 1 ≤ dM) (hS : Std h.2.2)
    (hZ : ∀ f a, Z (f + 1) a = if a.1 = 0 ∧ op (K a.2.1) = true then (if (A (a.2.1 + 1) (bb a)).1 ≠ 0 then A (a.2.1 + 1) (bb a) else Z f (0, (A (a.2.1 + 1) (bb a)).2.1, a.2.2.1 ++ (A (a.2.1 + 1) (bb a)).2.2.1 ++ [cd (K a.2.1)], rr a)) else a)
    (hSt : ∀ a, SP K P k b D' t' a → a.1 = 0 → op (K a.2.1) = true → OKk K (a.2.1 + 1) ∧ SP K P (a.2.1 + 1) (bb a) D t (A (a.2.1 + 1) (bb a)) ∧ 2 * bb a ≤ 3 * P (a.2.1 + 1) + 2 ∧ ((A (a.2.1 + 1) (bb a)).1 = 0 → SP K P k b D' t' (0, (A (a.2.1 + 1) (bb a)).2.1, a.2.2.1 ++ (A (a.2.1 + 1) (bb a)).2.2.1 ++ [cd (K a.2.1)], rr a)))
    (h18 : op 18 = false) (M : MOK K V P B T dM μ av A) (R : RdT K V B T h) (hz : sz ≤ k)
    (hLp : ∀ x g, x ≤ T → Std g.2.2 → g.1 73 6 = nI T → ((T ≤ x → G g) ∧ (x < T → op (g.1 73 8) = true → ∀ v, v = cd (g.1 73 8) → OKv dM mX6_advance [.ref 73] g (fun g2 => OKv dM μ av g2 (fun g3 => OKv dM mX7_emit [.ref 74, .int v] g3 (fun g4 => Loop (x + 1) g4) X) X) X) ∧ (op (g.1 73 8) = false → G g)) → Loop x g) :
    ∀ (f : Nat) (a : RP) (x : Nat) (g : Hp), T < f + a.2.1 → SP K P k b D' t' a → PCr K V B T h sz a g → x ≤ a.2.1 → (∀ q, PCr K V B T h sz (Z f a) q → G q) → Loop x g := by
  have flt : ∀ (a : RP) (x : Nat) (g : Hp), x ≤ T → a.1 ≠ 0 → PCr K V B T h sz a g → (∀ q, PCr K V B T h sz a q → G q) → Loop x g := fun a x g hx ha p hq => by
    have f := p.2.2 ha
    exact hLp x g hx (p.1.sd hS) (by rw [p.1.i 73 6]; exact R.1) ⟨fun _ => hq g p, fun _ w => (by rw [f.1, h18] at w; exact absurd w (by decide)), fun _ => hq g p⟩
  intro f
  induction f with
  | zero =>
    intro a x g hT s p hx hq
    have := okT R s.2.1
    omega
  | succ f ih =>
    intro a x g hT s p hx hq
    rw [hZ] at hq
    by_cases ha : a.1 = 0
    · obtain ⟨c, w1, w2⟩ := p.2.1 ha
      obtain ⟨s1, s2, s3, s4⟩ := id s
      obtain ⟨t1, t2, t3, t4⟩ := s3 ha
      have hSg := p.1.sd hS
      have aT0 := okT R s2
      refine hLp x g (by omega) hSg (by rw [p.1.i 73 6]; exact R.1) ⟨fun w => ?_, fun w wo v ev => ?_, fun wo => ?_⟩
      · have aT := okT R s2
        have eT : a.2.1 = T := by omega
        have no : ¬ (a.1 = 0 ∧ op (K a.2.1) = true) := fun y => by
          obtain ⟨o1, -⟩ := hSt a s ha y.2
          have := okT R o1
          omega
        rw [if_neg no] at hq
        exact hq g p
      · rw [c.2.2.2.1] at wo ev
        subst ev
        rw [if_pos ⟨ha, wo⟩] at hq
        obtain ⟨o1, hs, hb2, nx⟩ := hSt a s ha wo
        have T1 := okT R o1
        have T3 := R.2.1
        refine ok_advC hd hSg o1 c fun g2 f2 c2 => (M g2 _ X (f2.sd hSg)).1 (a.2.1 + 1) _ (bb a) o1 (by omega) hb2 c2 fun g3 p3 => ?_
        have hS3 := p3.1.sd (f2.sd hSg)
        have F3 : FR h g3 := (Fr.tr p.1 (f2.mono.tr p3.1))
        by_cases z : (A (a.2.1 + 1) (bb a)).1 = 0
        · rw [if_neg (fun y => y z)] at hq
          obtain ⟨u1, u2, u3, u4⟩ := hs
          obtain ⟨v1, v2, v3, v4⟩ := u3 z
          have kT := okT R u2
          obtain ⟨c3, y1, y2⟩ := p3.2.1 z
          refine ok_emC hd hS3 (by omega) c3 fun g4 f4 c4 e4 b4 => ?_
          refine ih _ _ g4 ?_ (nx z) ⟨Fr.tr F3 f4.mono, fun _ => ⟨?_, fun i hi => ?_, fun i hi => ?_⟩, fun y => absurd rfl y⟩ ?_ hq
          · show T < f + (A (a.2.1 + 1) (bb a)).2.1; omega
          · show CRd K V B T g4 (A (a.2.1 + 1) (bb a)).2.1 (sz + (_ ++ _ ++ [_]).length)
            rw [List.length_append, List.length_append, List.length_singleton, ← Nat.add_assoc, ← Nat.add_assoc]
            exact c4
          · show g4.1 79 (sz + i) = (a.2.2.1 ++ (A (a.2.1 + 1) (bb a)).2.2.1 ++ [cd (K a.2.1)]).getD i 0
            have hi : i < (a.2.2.1 ++ (A (a.2.1 + 1) (bb a)).2.2.1 ++ [cd (K a.2.1)]).length := hi
            rw [List.length_append, List.length_append, List.length_singleton] at hi
            rw [List.getD_eq_getElem?_getD]
            by_cases i1 : i < a.2.2.1.length
            · rw [List.getElem?_append_left (by rw [List.length_append]; omega), List.getElem?_append_left i1, ← List.getD_eq_getElem?_getD, b4 _ (by omega), y2 _ (by omega), f2.i 79]
              exact w1 i i1
            · by_cases i2 : i < a.2.2.1.length + (A (a.2.1 + 1) (bb a)).2.2.1.length
              · rw [List.getElem?_append_left (by rw [List.length_append]; omega), List.getElem?_append_right (by omega), ← List.getD_eq_getElem?_getD, b4 _ (by omega), ← y1 _ (by omega)]
                rw [show sz + a.2.2.1.length + (i - a.2.2.1.length) = sz + i by omega]
              · have ei : i = a.2.2.1.length + (A (a.2.1 + 1) (bb a)).2.2.1.length := by omega
                rw [List.getElem?_append_right (by rw [List.length_append]; omega), List.length_append, show i - (a.2.2.1.length + (A (a.2.1 + 1) (bb a)).2.2.1.length) = 0 by omega]
                rw [show sz + i = sz + a.2.2.1.length + (A (a.2.1 + 1) (bb a)).2.2.1.length by omega, e4]; rfl
          · rw [b4 i (by omega), y2 i (by omega), f2.i 79]; exact w2 i hi
          · show x + 1 ≤ (A (a.2.1 + 1) (bb a)).2.1; omega
        · rw [if_pos z] at hq
          exact ok_emF hd hS3 (p3.2.2 z) fun g4 f4 ff => flt _ _ g4 (by omega) z ⟨Fr.tr F3 f4, fun y => absurd y z, fun _ => ff⟩ hq
      · rw [c.2.2.2.1] at wo
        rw [if_neg (fun y => by rw [wo] at y; exact absurd y.2 (by decide))] at hq
        exact hq g p
    · rw [if_neg (fun y => ha y.1)] at hq
      have aT0 := okT R s.2.1
      exact flt a x g (by omega) ha p hq
end READC
