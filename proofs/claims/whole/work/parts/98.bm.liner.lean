/-! rights read: lines -/
section LINER
variable (K V : Nat → Int32)
abbrev RLn : Type := Nat × Nat × (List Int32 × List Int32) × (List Int32 × List Int32)
abbrev LI : Type := Int32 × (List Int32 × List Int32) × (List Int32 × List Int32)
def suL (k b : Nat) : RP := if K k = 2 then sumR K V 5 (k + 1) b else (0, k + 1, [], [])
def ifL (k b : Nat) : RP := if K k = 3 then teR K (oneR K V 5) (k + 1) b else (0, k, [], [])
def flL (k kind : Nat) : RLn := ((flR K k kind).1, k, ([], []), ([], []))
def liR (k num b : Nat) : RLn :=
  if K k ≠ 0 ∧ K k ≠ 1 ∧ K k ≠ 2 then flL K k 2 else if 12 ≤ num then flL K k 3
  else if (suL K V k b).1 ≠ 0 then ((suL K V k b).1, (suL K V k b).2.1, ([], []), ([], []))
  else if (ifL K V (suL K V k b).2.1 (b + (suL K V k b).2.2.2.length)).1 ≠ 0 then ((ifL K V (suL K V k b).2.1 (b + (suL K V k b).2.2.2.length)).1, (ifL K V (suL K V k b).2.1 (b + (suL K V k b).2.2.2.length)).2.1, ([], []), ([], []))
  else if K (ifL K V (suL K V k b).2.1 (b + (suL K V k b).2.2.2.length)).2.1 = 59 then (0, (ifL K V (suL K V k b).2.1 (b + (suL K V k b).2.2.2.length)).2.1 + 1, (suL K V k b).2.2, (ifL K V (suL K V k b).2.1 (b + (suL K V k b).2.2.2.length)).2.2)
  else flL K (ifL K V (suL K V k b).2.1 (b + (suL K V k b).2.2.2.length)).2.1 2
def ccL (l : LI) : List Int32 := l.2.1.1 ++ l.2.2.1
def rcL (l : LI) : List Int32 := l.2.1.2 ++ l.2.2.2
def tCl (ls : List LI) : List Int32 := ls.flatMap ccL
def tRl (ls : List LI) : List Int32 := ls.flatMap rcL
def rdR : Nat → Nat → List LI → Nat × Nat × List LI
  | 0, k, ls => (0, k, ls)
  | f + 1, k, ls => if K k = 16 then (0, k, ls) else if (liR K V k ls.length (tRl ls).length).1 ≠ 0 then ((liR K V k ls.length (tRl ls).length).1, (liR K V k ls.length (tRl ls).length).2.1, ls)
    else rdR f (liR K V k ls.length (tRl ls).length).2.1 (ls ++ [(K k, (liR K V k ls.length (tRl ls).length).2.2.1, (liR K V k ls.length (tRl ls).length).2.2.2)])
variable {K V} {P B : Nat → Nat} {T : Nat} {h q g : Hp} {d k sz num kind : Nat} {X : String → Hp → Prop} {G : Hp → Prop}
theorem SPv_pos {b D : Nat} {t : Prop} {r : RP} (s : SPv b D t r) : 0 < r.2.2.1.length ∧ 0 < r.2.2.2.length := by
  obtain ⟨v, _, _, h3⟩ := s
  obtain ⟨c, n, hr⟩ := h3 (fun _ => 0)
  refine ⟨Nat.pos_of_ne_zero fun z => ?_, Nat.pos_of_ne_zero fun z => ?_⟩
  · have e := List.length_eq_zero_iff.mp z
    rw [e] at c
    have := congrArg List.length (c [])
    simp [runL] at this
  · have e := List.length_eq_zero_iff.mp z
    have hr := hr (fun _ => 0) [] (fun i hi => by rw [z] at hi; omega)
    rw [z] at hr
    cases n with
    | zero =>
      have hr : (b, ([] : List Int64) ++ []) = (b + 0, [v fun _ => 0] ++ []) := hr
      have := congrArg (fun (x : SR2) => x.2.length) hr
      simp at this
    | succ n =>
      have := hr.1.1
      exact absurd this (Nat.lt_irrefl _)
/-- a part that may be missing -/
def PtOK (K : Nat → Int32) (P : Nat → Nat) (k k0 b : Nat) (t : Prop) (r : RP) : Prop := k ≤ r.2.1 ∧ OKk K r.2.1 ∧ (r.1 = 0 → r.2.2.1.length + k ≤ r.2.1 ∧ 2 * r.2.2.2.length + 3 * P k ≤ 3 * P r.2.1 + 1 ∧ ((k = r.2.1 ∧ r.2.2 = ([], [])) ∨ SPv b 14 t r)) ∧ (r.1 ≠ 0 → r.1 ≤ 4 ∧ (K r.2.1 = 17 ↔ r.1 = 1)) ∧ k0 ≤ k
theorem SP_five (Tk : TkP K V P) : SubOK K P 14 False (sumR K V 5) := (SP_sum Tk 5).up (by decide)
theorem suL_ok (Tk : TkP K V P) {b : Nat} (o : OKk K k) (w : K k = 0 ∨ K k = 1 ∨ K k = 2) (hb2 : 2 * b ≤ 3 * P k) : OKk K (k + 1) ∧ P k + 1 ≤ P (k + 1) ∧ PtOK K P (k + 1) k b False (suL K V k b) ∧ (K k = 2 → (suL K V k b).1 = 0 → SPv b 14 False (suL K V k b)) := by
  have o1 : OKk K (k + 1) := o.s (by obtain e | e | e := w <;> rw [e] <;> decide) (by obtain e | e | e := w <;> rw [e] <;> decide)
  have p1 := Tk.1 k o1
  unfold suL
  by_cases e : K k = 2
  · rw [if_pos e]
    have s := SP_five Tk (k + 1) b o1 (by omega)
    exact ⟨o1, p1, ⟨s.1, s.2.1, fun z => ⟨(s.2.2.1 z).2.1, (s.2.2.1 z).2.2.1, Or.inr (s.2.2.1 z).2.2.2⟩, s.2.2.2, by omega⟩, fun _ z => (s.2.2.1 z).2.2.2⟩
  · rw [if_neg e]
    exact ⟨o1, p1, ⟨Nat.le_refl _, o1, fun _ => ⟨by show 0 + (k + 1) ≤ k + 1; omega, by show 2 * 0 + 3 * P (k + 1) ≤ 3 * P (k + 1) + 1; omega, Or.inl ⟨rfl, rfl⟩⟩, fun z => absurd rfl z, by omega⟩, fun y => absurd y e⟩
theorem ifL_ok (Tk : TkP K V P) {b : Nat} (o : OKk K k) (hb2 : 2 * b ≤ 3 * P k + 2) : PtOK K P k k b True (ifL K V k b) := by
  unfold ifL
  by_cases e : K k = 3
  · rw [if_pos e]
    have o1 : OKk K (k + 1) := o.s (by rw [e]; decide) (by rw [e]; decide)
    have p1 := Tk.1 k o1
    have s := SP_test Tk (n := 5) (by decide) (k + 1) b o1 (by omega)
    refine ⟨by have := s.1; omega, s.2.1, fun z => ⟨by have := (s.2.2.1 z).2.1; omega, by have := (s.2.2.1 z).2.2.1; omega, Or.inr (s.2.2.1 z).2.2.2⟩, s.2.2.2, Nat.le_refl _⟩
  · rw [if_neg e]
    exact ⟨Nat.le_refl _, o, fun _ => ⟨by show 0 + k ≤ k; omega, by show 2 * 0 + 3 * P k ≤ 3 * P k + 1; omega, Or.inl ⟨rfl, rfl⟩⟩, fun z => absurd rfl z, Nat.le_refl _⟩
def LOK (K : Nat → Int32) (P : Nat → Nat) (k b : Nat) (r : RLn) : Prop := k ≤ r.2.1 ∧ OKk K r.2.1 ∧ (r.1 = 0 → k < r.2.1 ∧ r.2.2.1.1.length + r.2.2.2.1.length + k ≤ r.2.1 ∧ 2 * (r.2.2.1.2.length + r.2.2.2.2.length) + 3 * P k ≤ 3 * P r.2.1 ∧ (K k = 0 ∨ K k = 1 ∨ K k = 2) ∧ (K k = 2 → SPv b 14 False (0, 0, r.2.2.1)) ∧ (r.2.2.2 = ([], []) ∨ SPv (b + r.2.2.1.2.length) 14 True (0, 0, r.2.2.2))) ∧ (r.1 ≠ 0 → r.1 ≤ 4 ∧ (K r.2.1 = 17 ↔ r.1 = 1))
theorem LOK_fl {b kind : Nat} {k0 : Nat} (o : OKk K k) (hk : k0 ≤ k) (h2 : 2 ≤ kind) (h4 : kind ≤ 4) : LOK K P k0 b (flL K k kind) := ⟨hk, o, fun z => absurd z (fl_n (by omega)), (SP_fl (K := K) (P := P) (b := b) (D := 0) (tst := True) o h2 h4).2.2.2⟩
theorem li_ok (Tk : TkP K V P) {b : Nat} (o : OKk K k) (hb2 : 2 * b ≤ 3 * P k) : LOK K P k b (liR K V k num b) := by
  unfold liR
  by_cases w : K k ≠ 0 ∧ K k ≠ 1 ∧ K k ≠ 2
  · rw [if_pos w]; exact LOK_fl o (Nat.le_refl _) (by decide) (by decide)
  rw [if_neg w]
  have w3 : K k = 0 ∨ K k = 1 ∨ K k = 2 := by
    by_cases e0 : K k = 0
    · exact Or.inl e0
    by_cases e1 : K k = 1
    · exact Or.inr (Or.inl e1)
    by_cases e2 : K k = 2
    · exact Or.inr (Or.inr e2)
    exact absurd ⟨e0, e1, e2⟩ w
  by_cases wn : 12 ≤ num
  · rw [if_pos wn]; exact LOK_fl o (Nat.le_refl _) (by decide) (by decide)
  rw [if_neg wn]
  obtain ⟨o1, p1, ⟨s1, s2, s3, s4, _⟩, s5⟩ := suL_ok Tk o w3 hb2
  by_cases z1 : (suL K V k b).1 = 0
  · rw [if_neg (fun y => y z1)]
    obtain ⟨u1, u2, u3⟩ := s3 z1
    obtain ⟨t1, t2, t3, t4, _⟩ := ifL_ok Tk (b := b + (suL K V k b).2.2.2.length) s2 (by omega)
    by_cases z2 : (ifL K V (suL K V k b).2.1 (b + (suL K V k b).2.2.2.length)).1 = 0
    · rw [if_neg (fun y => y z2)]
      obtain ⟨v1, v2, v3⟩ := t3 z2
      by_cases w9 : K (ifL K V (suL K V k b).2.1 (b + (suL K V k b).2.2.2.length)).2.1 = 59
      · rw [if_pos w9]
        have o9 : OKk K ((ifL K V (suL K V k b).2.1 (b + (suL K V k b).2.2.2.length)).2.1 + 1) := t2.s (by rw [w9]; decide) (by rw [w9]; decide)
        have p9 := Tk.1 _ o9
        refine ⟨?_, o9, fun _ => ⟨?_, ?_, ?_, w3, fun e => s5 e z1, ?_⟩, fun y => absurd rfl y⟩
        · show k ≤ (ifL K V (suL K V k b).2.1 (b + (suL K V k b).2.2.2.length)).2.1 + 1; omega
        · show k < (ifL K V (suL K V k b).2.1 (b + (suL K V k b).2.2.2.length)).2.1 + 1; omega
        · show (suL K V k b).2.2.1.length + (ifL K V (suL K V k b).2.1 (b + (suL K V k b).2.2.2.length)).2.2.1.length + k ≤ (ifL K V (suL K V k b).2.1 (b + (suL K V k b).2.2.2.length)).2.1 + 1; omega
        · show 2 * ((suL K V k b).2.2.2.length + (ifL K V (suL K V k b).2.1 (b + (suL K V k b).2.2.2.length)).2.2.2.length) + 3 * P k ≤ 3 * P ((ifL K V (suL K V k b).2.1 (b + (suL K V k b).2.2.2.length)).2.1 + 1); omega
        · obtain ⟨_, e⟩ | e := v3
          · exact Or.inl e
          · exact Or.inr e
      · rw [if_neg w9]; exact LOK_fl t2 (by omega) (by decide) (by decide)
    · rw [if_pos z2]
      exact ⟨by show k ≤ (ifL K V (suL K V k b).2.1 (b + (suL K V k b).2.2.2.length)).2.1; omega, t2, fun y => absurd y z2, t4⟩
  · rw [if_pos z1]
    exact ⟨by show k ≤ (suL K V k b).2.1; omega, s2, fun y => absurd y z1, s4⟩
/-- a line, by the class -/
def FL (h q : Hp) : Prop := Fr [75, 76, 77, 78, 79] [(73, 1), (73, 2), (73, 7), (73, 8), (74, 6), (74, 0)] h q
def PLn (K V : Nat → Int32) (B : Nat → Nat) (T : Nat) (h : Hp) (k num sz : Nat) (r : RLn) (q : Hp) : Prop := FL h q ∧ (r.1 = 0 → CRd K V B T q r.2.1 (sz + r.2.2.1.1.length + r.2.2.2.1.length) ∧ q.1 74 0 = nI (num + 1) ∧ (q.1 75 num = K k ∧ q.1 76 num = nI sz ∧ q.1 77 num = nI (sz + r.2.2.1.1.length) ∧ q.1 78 num = nI (sz + r.2.2.1.1.length + r.2.2.2.1.length)) ∧ (∀ j, j ≠ num → q.1 75 j = h.1 75 j ∧ q.1 76 j = h.1 76 j ∧ q.1 77 j = h.1 77 j ∧ q.1 78 j = h.1 78 j) ∧ (∀ i, i < r.2.2.1.1.length → q.1 79 (sz + i) = r.2.2.1.1.getD i 0) ∧ (∀ i, i < r.2.2.2.1.length → q.1 79 (sz + r.2.2.1.1.length + i) = r.2.2.2.1.getD i 0) ∧ ∀ i, i < sz → q.1 79 i = h.1 79 i) ∧ (r.1 ≠ 0 → FRd B q r.1 r.2.1)
theorem FR.fl (f : FR h q) : FL h q := Fr.mono f
theorem FL.tr (a : FL h q) (b : FL q g) : FL h g := Fr.tr a b
theorem ok_line {b : Nat} (Tk : TkP K V P) (hS : Std h.2.2) (o : OKk K k) (hz : sz ≤ k) (hn : num ≤ 12) (hb2 : 2 * b ≤ 3 * P k) (c : CRd K V B T h k sz) (c0 : h.1 74 0 = nI num) (hq : ∀ q, PLn K V B T h k num sz (liR K V k num b) q → G q) : OKv 25 mX6_line [.ref 73] h G X := by
  have kT := okT c.1 o
  have T3 := c.1.2.1
  have ct := c.2.2.2.1
  have c6 := c.2.2.2.2
  have L := li_ok (num := num) Tk o hb2
  unfold liR at hq L
  have rf : ∀ kd : Nat, (kd ≠ 0 ∧ kd ≤ 4) → (∀ q, PLn K V B T h k num sz (flL K k kd) q → G q) → OKv 24 mX6_refuse [.ref 73, .int (nI kd)] h G X := fun kd hk hq => ok_refC (by omega) hS o hz hk c fun q f fd => hq q ⟨f.mono, fun z => absurd z (fl_n hk.1), fun _ => fd⟩
  have s29 : (K k = 0 ∨ K k = 1 ∨ K k = 2) → E mX6_line 24 0 0 29 [(0, .ref 73)] [] h (Qv G) X := fun w => by
    have nw : ¬ (K k ≠ 0 ∧ K k ≠ 1 ∧ K k ≠ 2) := fun y => by
      obtain e | e | e := w
      · exact y.1 e
      · exact y.2.1 e
      · exact y.2.2 e
    rw [if_neg nw] at hq L
    refine sgX6_line_29 (by decide) hS ⟨fun w2 => ?_, fun w2 => ?_⟩
    · rw [c0, lit_nI 12] at w2
      have n12 : num < 12 := (nI_ltI (by omega) (by omega)).mp w2
      rw [if_neg (by omega)] at hq L
      rw [c0, nI_clamp (by omega), ct, c6]
      obtain ⟨o1, p1, ⟨s1, s2, s3, s4, _⟩, s5⟩ := suL_ok Tk o w hb2
      -- after the says and the sum's place
      have f0 : FL h (hI (hI h 75 num (K k)) 76 num (nI sz)) := Fr.tr Fr.pI Fr.pI
      have c1 : CRd K V B T (hI (hI h 75 num (K k)) 76 num (nI sz)) k sz := ⟨c.1, c.2.1, c.2.2.1, ct, c6⟩
      have x75 : (hI (hI h 75 num (K k)) 76 num (nI sz)).1 75 num = K k := by rw [hI_c (by decide), hI_k]
      have x76 : (hI (hI h 75 num (K k)) 76 num (nI sz)).1 76 num = nI sz := hI_k
      have y75 : ∀ j, j ≠ num → (hI (hI h 75 num (K k)) 76 num (nI sz)).1 75 j = h.1 75 j ∧ (hI (hI h 75 num (K k)) 76 num (nI sz)).1 76 j = h.1 76 j := fun j hj => ⟨by rw [hI_c (by decide), hI_j hj], by rw [hI_j hj, hI_c (by decide)]⟩
      have z79 : ∀ i, (hI (hI h 75 num (K k)) 76 num (nI sz)).1 79 i = h.1 79 i := fun i => by rw [hI_c (by decide), hI_c (by decide)]
      have z77 : ∀ i, (hI (hI h 75 num (K k)) 76 num (nI sz)).1 77 i = h.1 77 i ∧ (hI (hI h 75 num (K k)) 76 num (nI sz)).1 78 i = h.1 78 i := fun i => ⟨by rw [hI_c (by decide), hI_c (by decide)], by rw [hI_c (by decide), hI_c (by decide)]⟩
      have z0 : (hI (hI h 75 num (K k)) 76 num (nI sz)).1 74 0 = nI num := c0
      generalize hI (hI h 75 num (K k)) 76 num (nI sz) = g0 at f0 c1 x75 x76 y75 z79 z77 z0
      -- behind a fault
      have flt : ∀ (g : Hp) (kd kk : Nat), FL h g → FRd B g kd kk → (∀ q, FL h q → FRd B q kd kk → G q) → E mX6_line 24 0 0 105 [(0, .ref 73), (1, .int (nI num))] [] g (Qv G) X := fun g kd kk f fd hq => by
        refine sgX6_line_105 _ (by decide) (f.sd hS) ⟨vin n12, fun y => absurd (fd.1.symm.trans y) (by decide), fun _ => ?_⟩
        rw [nI_clamp (by omega)]
        have f1 : FL h (hI g 77 num (g.1 74 6)) := Fr.tr f Fr.pI
        refine sgX6_line_138 _ (by decide) (f.sd hS) ⟨vin n12, ?_⟩
        rw [nI_clamp (by omega)]
        have f2 : FL h (hI (hI (hI g 77 num (g.1 74 6)) 78 num ((hI g 77 num (g.1 74 6)).1 74 6)) 74 0 ((hI g 77 num (g.1 74 6)).1 74 0 + 1)) := Fr.tr f1 (Fr.tr Fr.pI Fr.pI)
        exact ok_expF (by decide) (f.sd hS) (by decide) (kind := kd) (k := kk) fd fun q f3 fd3 => hq q (f2.tr f3.fl) fd3
      -- behind the sum
      have s105 : ∀ g, FR g0 g → (suL K V k b).1 = 0 → CRd K V B T g (suL K V k b).2.1 (sz + (suL K V k b).2.2.1.length) → (∀ i, i < (suL K V k b).2.2.1.length → g.1 79 (sz + i) = (suL K V k b).2.2.1.getD i 0) → (∀ i, i < sz → g.1 79 i = h.1 79 i) → E mX6_line 24 0 0 105 [(0, .ref 73), (1, .int (nI num))] [] g (Qv G) X := fun g f z1 cg w1 w0 => by
        rw [if_neg (fun y => y z1)] at hq L
        obtain ⟨u1, u2, u3⟩ := s3 z1
        obtain ⟨t1, t2, t3, t4, _⟩ := ifL_ok Tk (b := b + (suL K V k b).2.2.2.length) s2 (by omega)
        have hSg := f.sd (f0.sd hS)
        have sT := okT c.1 s2
        have s138 : ∀ g2, FR (hI g 77 num (nI (sz + (suL K V k b).2.2.1.length))) g2 → (ifL K V (suL K V k b).2.1 (b + (suL K V k b).2.2.2.length)).1 = 0 → CRd K V B T g2 (ifL K V (suL K V k b).2.1 (b + (suL K V k b).2.2.2.length)).2.1 (sz + (suL K V k b).2.2.1.length + (ifL K V (suL K V k b).2.1 (b + (suL K V k b).2.2.2.length)).2.2.1.length) → (∀ i, i < (ifL K V (suL K V k b).2.1 (b + (suL K V k b).2.2.2.length)).2.2.1.length → g2.1 79 (sz + (suL K V k b).2.2.1.length + i) = (ifL K V (suL K V k b).2.1 (b + (suL K V k b).2.2.2.length)).2.2.1.getD i 0) → (∀ i, i < sz + (suL K V k b).2.2.1.length → g2.1 79 i = g.1 79 i) → E mX6_line 24 0 0 138 [(0, .ref 73), (1, .int (nI num))] [] g2 (Qv G) X := fun g2 f2 z2 cg2 y1 y0 => by
          rw [if_neg (fun y => y z2)] at hq L
          obtain ⟨v1, v2, v3⟩ := t3 z2
          have hS2 : Std g2.2.2 := f2.sd hSg
          have tT := okT c.1 t2
          have n0 : g2.1 74 0 = nI num := by rw [f2.i 74 0, hI_c (by decide), f.i 74 0]; exact z0
          refine sgX6_line_138 _ (by decide) hS2 ⟨vin n12, ?_⟩
          rw [nI_clamp (by omega), cg2.2.2.2.2, n0, nI_1]
          have F0 : FL h g2 := f0.tr (f.fl.tr (Fr.tr (Fr.pI : FL g (hI g 77 num (nI (sz + (suL K V k b).2.2.1.length)))) f2.fl))
          have F1 : FL h (hI (hI g2 78 num (nI (sz + (suL K V k b).2.2.1.length + (ifL K V (suL K V k b).2.1 (b + (suL K V k b).2.2.2.length)).2.2.1.length))) 74 0 (nI (num + 1))) := F0.tr (Fr.tr Fr.pI Fr.pI)
          have cg3 : CRd K V B T (hI (hI g2 78 num (nI (sz + (suL K V k b).2.2.1.length + (ifL K V (suL K V k b).2.1 (b + (suL K V k b).2.2.2.length)).2.2.1.length))) 74 0 (nI (num + 1))) (ifL K V (suL K V k b).2.1 (b + (suL K V k b).2.2.2.length)).2.1 (sz + (suL K V k b).2.2.1.length + (ifL K V (suL K V k b).2.1 (b + (suL K V k b).2.2.2.length)).2.2.1.length) := ⟨cg2.1, cg2.2.1, cg2.2.2.1, cg2.2.2.2.1, cg2.2.2.2.2⟩
          refine ok_expC (by decide) hS2 t2 (by omega) (by decide) cg3 (fun w9 q3 f3 c3 => ?_) fun w9 q3 f3 fd => ?_
          · rw [if_pos w9] at hq
            refine hq q3 ⟨F1.tr f3.mono, fun _ => ⟨c3, ?_, ⟨?_, ?_, ?_, ?_⟩, fun j hj => ⟨?_, ?_, ?_, ?_⟩, fun i hi => ?_, fun i hi => ?_, fun i hi => ?_⟩, fun y => absurd rfl y⟩
            · rw [f3.i 74 0]; rfl
            · rw [f3.i 75, hI_c (by decide), hI_c (by decide), f2.i 75, hI_c (by decide), f.i 75]; exact x75
            · rw [f3.i 76, hI_c (by decide), hI_c (by decide), f2.i 76, hI_c (by decide), f.i 76]; exact x76
            · rw [f3.i 77, hI_c (by decide), hI_c (by decide), f2.i 77, hI_k]
            · rw [f3.i 78, hI_c (by decide), hI_k]
            · rw [f3.i 75, hI_c (by decide), hI_c (by decide), f2.i 75, hI_c (by decide), f.i 75]; exact (y75 j hj).1
            · rw [f3.i 76, hI_c (by decide), hI_c (by decide), f2.i 76, hI_c (by decide), f.i 76]; exact (y75 j hj).2
            · rw [f3.i 77, hI_c (by decide), hI_c (by decide), f2.i 77, hI_j hj, f.i 77]; exact (z77 j).1
            · rw [f3.i 78, hI_c (by decide), hI_j hj, f2.i 78, hI_c (by decide), f.i 78]; exact (z77 j).2
            · have hi : i < (suL K V k b).2.2.1.length := hi
              show q3.1 79 (sz + i) = (suL K V k b).2.2.1.getD i 0
              rw [f3.i 79, hI_c (by decide), hI_c (by decide), y0 _ (by omega)]; exact w1 i hi
            · show q3.1 79 (sz + (suL K V k b).2.2.1.length + i) = (ifL K V (suL K V k b).2.1 (b + (suL K V k b).2.2.2.length)).2.2.1.getD i 0
              rw [f3.i 79, hI_c (by decide), hI_c (by decide)]; exact y1 i hi
            · rw [f3.i 79, hI_c (by decide), hI_c (by decide), y0 _ (by omega)]; exact w0 i hi
          · rw [if_neg w9] at hq
            exact hq q3 ⟨F1.tr f3.mono, fun y => absurd y (fl_n (by decide)), fun _ => fd⟩
        refine sgX6_line_105 _ (by decide) hSg ⟨vin n12, fun w3 => ?_, fun w3 => ?_⟩
        · rw [cg.2.2.2.1] at w3
          rw [nI_clamp (by omega), cg.2.2.2.2]
          have e : ifL K V (suL K V k b).2.1 (b + (suL K V k b).2.2.2.length) = teR K (oneR K V 5) ((suL K V k b).2.1 + 1) (b + (suL K V k b).2.2.2.length) := if_pos w3
          have o3 : OKk K ((suL K V k b).2.1 + 1) := s2.s (by rw [w3]; decide) (by rw [w3]; decide)
          have p3 := Tk.1 _ o3
          have cg1 : CRd K V B T (hI g 77 num (nI (sz + (suL K V k b).2.2.1.length))) (suL K V k b).2.1 (sz + (suL K V k b).2.2.1.length) := ⟨cg.1, cg.2.1, cg.2.2.1, cg.2.2.2.1, cg.2.2.2.2⟩
          have hS1 : Std (hI g 77 num (nI (sz + (suL K V k b).2.2.1.length))).2.2 := hSg
          refine ok_advC (by decide) hS1 o3 cg1 fun q1 f1 c1 => (test_ok Tk q1 _ X (f1.sd hS1)).1 _ _ (b + (suL K V k b).2.2.2.length) o3 (by omega) (by omega) c1 fun q2 p2 => ?_
          rw [← e] at p2
          have F2 : FR (hI g 77 num (nI (sz + (suL K V k b).2.2.1.length))) q2 := Fr.tr f1.mono p2.1
          by_cases z2 : (ifL K V (suL K V k b).2.1 (b + (suL K V k b).2.2.2.length)).1 = 0
          · obtain ⟨c2, y1, y2⟩ := p2.2.1 z2
            exact s138 q2 F2 z2 c2 y1 fun i hi => by rw [y2 i hi, f1.i 79, hI_c (by decide)]
          · rw [if_pos z2] at hq
            have fd := p2.2.2 z2
            have F0 : FL h q2 := f0.tr (f.fl.tr (Fr.tr (Fr.pI : FL g (hI g 77 num (nI (sz + (suL K V k b).2.2.1.length)))) F2.fl))
            refine sgX6_line_138 _ (by decide) (F0.sd hS) ⟨vin n12, ?_⟩
            rw [nI_clamp (by omega)]
            have F3 : FL h (hI (hI q2 78 num (q2.1 74 6)) 74 0 (q2.1 74 0 + 1)) := F0.tr (Fr.tr Fr.pI Fr.pI)
            exact ok_expF (by decide) (F0.sd hS) (by decide) (kind := (ifL K V (suL K V k b).2.1 (b + (suL K V k b).2.2.2.length)).1) (k := (ifL K V (suL K V k b).2.1 (b + (suL K V k b).2.2.2.length)).2.1) fd fun q f3 fd3 => hq q ⟨F3.tr f3.fl, fun y => absurd y z2, fun _ => fd3⟩
        · rw [cg.2.2.2.1] at w3
          rw [nI_clamp (by omega), cg.2.2.2.2]
          have e : ifL K V (suL K V k b).2.1 (b + (suL K V k b).2.2.2.length) = (0, (suL K V k b).2.1, [], []) := if_neg w3
          exact s138 _ Fr.rf (by rw [e]) (by rw [e]; exact ⟨cg.1, cg.2.1, cg.2.2.1, cg.2.2.2.1, cg.2.2.2.2⟩) (fun i hi => by rw [e] at hi; exact absurd hi (Nat.not_lt_zero _)) fun i _ => by rw [hI_c (by decide)]
      have fin91 : ∀ s0 : Int32, (s0 = 0 → K k ≠ 2) → (s0 ≠ 0 → K k = 2) → E mX6_line 24 0 0 91 [(0, .ref 73), (1, .int (nI num))] [.int s0] g0 (Qv G) X := fun s0 h0 h1 => by
        refine sgX6_line_91 _ _ (by decide) (f0.sd hS) (ok_advC (by decide) (f0.sd hS) o1 c1 fun q1 f1 c1 => ⟨fun y => ?_, fun y => ?_⟩)
        · have e : suL K V k b = (0, k + 1, [], []) := if_neg (h0 y)
          exact s105 q1 f1.mono (by rw [e]) (by rw [e]; exact c1) (fun i hi => by rw [e] at hi; exact absurd hi (Nat.not_lt_zero _)) fun i _ => by rw [f1.i 79]; exact z79 i
        · have e : suL K V k b = sumR K V 5 (k + 1) b := if_pos (h1 y)
          refine (((sumN_ok Tk 5 (by decide)).up (by decide : 5 + 3 * 5 ≤ 24)) q1 _ X (f1.sd (f0.sd hS))).1 (k + 1) sz b o1 (by omega) (by omega) c1 fun q2 p2 => ?_
          rw [← e] at p2
          have F2 : FR g0 q2 := Fr.tr f1.mono p2.1
          by_cases z1 : (suL K V k b).1 = 0
          · obtain ⟨c2, w1, w2⟩ := p2.2.1 z1
            exact s105 q2 F2 z1 c2 w1 fun i hi => by rw [w2 i hi, f1.i 79]; exact z79 i
          · rw [if_pos z1] at hq
            exact flt q2 _ _ (f0.tr F2.fl) (p2.2.2 z1) fun q f fd => hq q ⟨f, fun y => absurd y z1, fun _ => fd⟩
      exact ⟨vin n12, vin n12, fun y => fin91 1 (fun e => absurd e (by decide)) (fun _ => y), fun y => fin91 0 (fun _ => y) (fun e => absurd rfl e)⟩
    · rw [c0, lit_nI 12] at w2
      have n12 : 12 ≤ num := Nat.not_lt.mp fun y => w2 (nI_lt y (by omega))
      rw [if_pos n12] at hq
      exact rf 3 (by decide) hq
  refine okv_of 24 (by decide +kernel) (Nat.le_of_ble_eq_true rfl) (sgX6_line_0 (by decide) hS ⟨fun w => s29 (Or.inl (ct.symm.trans w)), fun w => ⟨fun w2 => s29 (Or.inr (Or.inl (ct.symm.trans w2))), fun w2 => ⟨fun w3 => s29 (Or.inr (Or.inr (ct.symm.trans w3))), fun w3 => ?_⟩⟩⟩)
  rw [ct] at w w2 w3
  rw [if_pos ⟨w, w2, w3⟩] at hq
  exact rf 2 (by decide) hq
end LINER
