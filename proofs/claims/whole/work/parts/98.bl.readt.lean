/-! rights read: tests, by the class -/
section READT
variable {K V : Nat → Int32} {P B : Nat → Nat} {T : Nat} {h q g : Hp} {d k sz kind r : Nat} {X : String → Hp → Prop} {G : Hp → Prop}
theorem code3 {g2 g3 g4 : Hp} {ca cs : List Int32} {v : Int32} (w1 : ∀ i, i < ca.length → g2.1 79 (sz + i) = ca.getD i 0) (w2 : ∀ i, i < sz → g2.1 79 i = h.1 79 i) (y1 : ∀ i, i < cs.length → g3.1 79 (sz + ca.length + i) = cs.getD i 0) (y2 : ∀ i, i < sz + ca.length → g3.1 79 i = g2.1 79 i) (e4 : g4.1 79 (sz + ca.length + cs.length) = v) (b4 : ∀ i, i < sz + ca.length + cs.length → g4.1 79 i = g3.1 79 i) : (∀ i, i < (ca ++ cs ++ [v]).length → g4.1 79 (sz + i) = (ca ++ cs ++ [v]).getD i 0) ∧ ∀ i, i < sz → g4.1 79 i = h.1 79 i := by
  refine ⟨fun i hi => ?_, fun i hi => ?_⟩
  · rw [List.length_append, List.length_append, List.length_singleton] at hi
    rw [List.getD_eq_getElem?_getD]
    by_cases i1 : i < ca.length
    · rw [List.getElem?_append_left (by rw [List.length_append]; omega), List.getElem?_append_left i1, ← List.getD_eq_getElem?_getD, b4 _ (by omega), y2 _ (by omega)]
      exact w1 i i1
    · by_cases i2 : i < ca.length + cs.length
      · rw [List.getElem?_append_left (by rw [List.length_append]; omega), List.getElem?_append_right (by omega), ← List.getD_eq_getElem?_getD, b4 _ (by omega), ← y1 _ (by omega)]
        rw [show sz + ca.length + (i - ca.length) = sz + i by omega]
      · have ei : i = ca.length + cs.length := by omega
        rw [List.getElem?_append_right (by rw [List.length_append]; omega), List.length_append, show i - (ca.length + cs.length) = 0 by omega]
        rw [show sz + i = sz + ca.length + cs.length by omega, e4]; rfl
  · rw [b4 i (by omega), y2 i (by omega)]; exact w2 i hi
theorem cm_ok {S : Nat → Nat → RP} {D : Nat} (Tk : TkP K V P) (hd : 2 ≤ d) (M : MOK K V P B T d mX6_sum [.ref 73, .int (nI r)] S) (SS : SubOK K P D False S) : MOK K V P B T (d + 1) mX6_compare [.ref 73, .int (nI r)] (cmR K S) := by
  intro h G X hS
  refine ⟨fun k sz b o hz hb2 c hq => ?_, fun kind k f hq => ?_⟩
  · refine okv_of d (by decide +kernel) (Nat.le_of_ble_eq_true rfl) (sgX6_compare_0 _ hd hS ((M h _ X hS).1 k sz b o hz hb2 c fun q1 p1 => ?_))
    have hS1 := p1.1.sd hS
    have s := SS k b o hb2
    unfold cmR at hq
    by_cases z : (S k b).1 = 0
    · rw [if_neg (fun y => y z)] at hq
      obtain ⟨c1, w1, w2⟩ := p1.2.1 z
      have v := s.2.2.1 z
      have T3 := c.1.2.1
      have step : isC (K (S k b).2.1) = true → OKv d mX6_advance [.ref 73] q1 (fun h7 => OKv d mX6_sum [.ref 73, .int (nI r)] h7 (fun h11 => OKv d mX7_emit [.ref 74, .int (-(q1.1 73 8))] h11 (fun h15 => G h15) X) X) X := fun w => by
        rw [if_pos w] at hq
        obtain ⟨n16, n17, _⟩ := opC_ok _ w
        have o1 : OKk K ((S k b).2.1 + 1) := s.2.1.s n16 n17
        have b2 := chB Tk hb2 s z o1
        have s2 := SS _ _ o1 b2
        refine ok_advC (by omega) hS1 o1 c1 fun q2 f2 c2 => (M q2 _ X (f2.sd hS1)).1 _ _ _ o1 (by omega) b2 c2 fun q3 p3 => ?_
        have hS3 := p3.1.sd (f2.sd hS1)
        have F3 : FR h q3 := Fr.tr p1.1 (f2.mono.tr p3.1)
        by_cases z2 : (S ((S k b).2.1 + 1) (b + (S k b).2.2.2.length)).1 = 0
        · rw [if_neg (fun y => y z2)] at hq
          obtain ⟨c3, y1, y2⟩ := p3.2.1 z2
          have v2 := s2.2.2.1 z2
          have kT := okT c.1 s2.2.1
          refine ok_emC (by omega) hS3 (by omega) c3 fun q4 f4 c4 e4 b4 => hq q4 ⟨Fr.tr F3 f4.mono, fun _ => ⟨?_, code3 w1 w2 y1 (fun i hi => by rw [y2 i hi, f2.i 79]) (by rw [e4, c1.2.2.2.1]) b4⟩, fun y => absurd rfl y⟩
          show CRd K V B T q4 _ (sz + (_ ++ _ ++ [_]).length)
          rw [List.length_append, List.length_append, List.length_singleton, ← Nat.add_assoc, ← Nat.add_assoc]
          exact c4
        · rw [if_pos z2] at hq
          exact ok_emF (by omega) hS3 (p3.2.2 z2) fun q4 f4 fd => hq q4 ⟨Fr.tr F3 f4, fun y => absurd y z2, fun _ => fd⟩
      refine ⟨fun w => step (by rw [← c1.2.2.2.1, w]; rfl), fun w => ⟨fun w2 => step (by rw [← c1.2.2.2.1, w2]; rfl), fun w2 => ⟨fun w3 => step (by rw [← c1.2.2.2.1, w3]; rfl), fun w3 => ?_⟩⟩⟩
      rw [c1.2.2.2.1] at w w2 w3
      have no : ¬ isC (K (S k b).2.1) = true := fun y => by
        rw [isC, decide_eq_false w, decide_eq_false w2, decide_eq_false w3] at y; exact absurd y (by decide)
      rw [if_neg no] at hq
      exact ok_refC (kind := 2) (by omega) hS1 s.2.1 (by omega) (by decide) c1 fun q2 f2 fd => hq q2 ⟨Fr.tr p1.1 f2.mono, fun y => absurd y (fl_n (by decide)), fun _ => fd⟩
    · rw [if_pos z] at hq
      have fd := p1.2.2 z
      refine ⟨fun w => absurd (fd.1.symm.trans w) (by decide), fun _ => ⟨fun w => absurd (fd.1.symm.trans w) (by decide), fun _ => ⟨fun w => absurd (fd.1.symm.trans w) (by decide), fun _ => ok_refF (by omega) hS1 fd fun q2 f2 fd2 => hq q2 ⟨Fr.tr p1.1 f2, fun y => absurd y z, fun _ => fd2⟩⟩⟩⟩
  · refine okv_of d (by decide +kernel) (Nat.le_of_ble_eq_true rfl) (sgX6_compare_0 _ hd hS ((M h _ X hS).2 kind k f fun q1 f1 fd => ?_))
    exact ⟨fun w => absurd (fd.1.symm.trans w) (by decide), fun _ => ⟨fun w => absurd (fd.1.symm.trans w) (by decide), fun _ => ⟨fun w => absurd (fd.1.symm.trans w) (by decide), fun _ => ok_refF (by omega) (f1.sd hS) fd fun q2 f2 fd2 => hq q2 (Fr.tr f1 f2) fd2⟩⟩⟩
theorem on_ok {sub : Option (Nat → Nat → RP)} {S : Nat → Nat → RP} {D : Nat} (Tk : TkP K V P) (hr : r ≤ 5) (hd : 3 ≤ d) (M : MOK K V P B T d mX6_compare [.ref 73, .int (nI r)] (cmR K S)) (hsub : (sub = none ∧ r = 5) ∨ ∃ O, sub = some O ∧ r < 5 ∧ MOK K V P B T d mX6_one [.ref 73, .int (nI (r + 1))] O ∧ MOK K V P B T d mX6_test [.ref 73, .int (nI (r + 1))] (teR K O) ∧ SubOK K P D True O) : MOK K V P B T (d + 1) mX6_one [.ref 73, .int (nI r)] (onR K sub S) := by
  intro h G X hS
  refine ⟨fun k sz b o hz hb2 c hq => ?_, fun kind k f hq => ?_⟩
  · have kT := okT c.1 o
    have T3 := c.1.2.1
    have ct := c.2.2.2.1
    have rf : (∀ q, PCr K V B T h sz (flR K k 4) q → G q) → OKv d mX6_refuse [.ref 73, .int 4] h G X := fun hq => ok_refC (kind := 4) (by omega) hS o hz (by decide) c fun q f fd => hq q ⟨f.mono, fun z => absurd z (fl_n (by decide)), fun _ => fd⟩
    have s31 : ((K k = 6 ∨ K k = 91) → r < 5) → E mX6_one d 0 0 31 [(0, .ref 73), (1, .int (nI r))] [] h (Qv G) X := fun h5 => by
      refine sgX6_one_31 _ hd hS ⟨fun w => ?_, fun w => ⟨fun w2 => ?_, fun w2 => ?_⟩⟩
      · rw [ct] at w
        unfold onR at hq
        rw [if_pos w] at hq
        obtain ⟨e, e5⟩ | ⟨O, e, e2, MO, MT, SO⟩ := hsub
        · have := h5 (Or.inl w); omega
        · subst e
          have o1 : OKk K (k + 1) := o.s (by rw [w]; decide) (by rw [w]; decide)
          have p1 := Tk.1 k o1
          have s := SO (k + 1) b o1 (by omega)
          have hq : ∀ q, PCr K V B T h sz (if (O (k + 1) b).1 ≠ 0 then O (k + 1) b else (0, (O (k + 1) b).2.1, (O (k + 1) b).2.2.1 ++ [-22], (O (k + 1) b).2.2.2 ++ [3])) q → G q := hq
          refine ok_advC (by omega) hS o1 c fun q1 f1 c1 => ?_
          rw [nI_r1]
          refine (MO q1 _ X (f1.sd hS)).1 (k + 1) sz b o1 (by omega) (by omega) c1 fun q2 p2 => ?_
          have hS2 := p2.1.sd (f1.sd hS)
          have F2 : FR h q2 := Fr.tr f1.mono p2.1
          by_cases z : (O (k + 1) b).1 = 0
          · rw [if_neg (fun y => y z)] at hq
            obtain ⟨c2, w1, w2⟩ := p2.2.1 z
            have v := s.2.2.1 z
            have kT2 := okT c.1 s.2.1
            refine ok_emC (by omega) hS2 (by omega) c2 fun q3 f3 c3 e3 b3 => hq q3 ⟨Fr.tr F2 f3.mono, fun _ => ⟨?_, fun i hi => ?_, fun i hi => ?_⟩, fun y => absurd rfl y⟩
            · show CRd K V B T q3 _ (sz + (_ ++ [_]).length)
              rw [List.length_append, List.length_singleton, ← Nat.add_assoc]
              exact c3
            · have hi : i < ((O (k + 1) b).2.2.1 ++ [(-22 : Int32)]).length := hi
              show q3.1 79 (sz + i) = ((O (k + 1) b).2.2.1 ++ [(-22 : Int32)]).getD i 0
              rw [List.length_append, List.length_singleton] at hi
              rw [List.getD_eq_getElem?_getD]
              by_cases i1 : i < (O (k + 1) b).2.2.1.length
              · rw [List.getElem?_append_left i1, ← List.getD_eq_getElem?_getD, b3 _ (by omega)]
                exact w1 i i1
              · have ei : i = (O (k + 1) b).2.2.1.length := by omega
                rw [List.getElem?_append_right (by omega), ei, Nat.sub_self, e3]; rfl
            · rw [b3 i (by omega), w2 i hi, f1.i 79]
          · rw [if_pos z] at hq
            exact ok_emF (by omega) hS2 (p2.2.2 z) fun q3 f3 fd => hq q3 ⟨Fr.tr F2 f3, fun y => absurd y z, fun _ => fd⟩
      · rw [ct] at w w2
        unfold onR at hq
        rw [if_neg w, if_pos w2] at hq
        obtain ⟨e, e5⟩ | ⟨O, e, e2, MO, MT, SO⟩ := hsub
        · have := h5 (Or.inr w2); omega
        · subst e
          have o1 : OKk K (k + 1) := o.s (by rw [w2]; decide) (by rw [w2]; decide)
          have p1 := Tk.1 k o1
          have s := SP_te Tk SO (k + 1) b o1 (by omega)
          have hq : ∀ q, PCr K V B T h sz (if (teR K O (k + 1) b).1 ≠ 0 then teR K O (k + 1) b else if K (teR K O (k + 1) b).2.1 = 93 then (0, (teR K O (k + 1) b).2.1 + 1, (teR K O (k + 1) b).2.2.1, (teR K O (k + 1) b).2.2.2) else flR K (teR K O (k + 1) b).2.1 2) q → G q := hq
          refine ok_advC (by omega) hS o1 c fun q1 f1 c1 => ?_
          rw [nI_r1]
          refine (MT q1 _ X (f1.sd hS)).1 (k + 1) sz b o1 (by omega) (by omega) c1 fun q2 p2 => ?_
          have hS2 := p2.1.sd (f1.sd hS)
          have F2 : FR h q2 := Fr.tr f1.mono p2.1
          by_cases z : (teR K O (k + 1) b).1 = 0
          · rw [if_neg (fun y => y z)] at hq
            obtain ⟨c2, w1, w2⟩ := p2.2.1 z
            have v := s.2.2.1 z
            refine ok_expC (by omega) hS2 s.2.1 (by omega) (by decide) c2 (fun w q3 f3 c3 => ?_) fun w q3 f3 fd => ?_
            · rw [if_pos w] at hq
              exact hq q3 ⟨Fr.tr F2 f3.mono, fun _ => ⟨c3, fun i hi => by rw [f3.i 79]; exact w1 i hi, fun i hi => by rw [f3.i 79, w2 i hi, f1.i 79]⟩, fun y => absurd rfl y⟩
            · rw [if_neg w] at hq
              exact hq q3 ⟨Fr.tr F2 f3.mono, fun y => absurd y (fl_n (by decide)), fun _ => fd⟩
          · rw [if_pos z] at hq
            exact ok_expF (by omega) hS2 (by decide) (p2.2.2 z) fun q3 f3 fd => hq q3 ⟨Fr.tr F2 f3, fun y => absurd y z, fun _ => fd⟩
      · rw [ct] at w w2
        unfold onR at hq
        rw [if_neg w, if_neg w2] at hq
        exact (M h _ X hS).1 k sz b o hz hb2 c hq
    have s18 : (K k = 6 ∨ K k = 91) → E mX6_one d 0 0 18 [(0, .ref 73), (1, .int (nI r))] [] h (Qv G) X := fun w => by
      refine sgX6_one_18 _ hd hS ⟨fun w2 => s31 fun _ => (r5 hr).mp w2, fun w2 => ?_⟩
      have r5' : ¬ r < 5 := fun y => w2 ((r5 hr).mpr y)
      obtain ⟨e, e5⟩ | ⟨O, e, e2, _⟩ := hsub
      · subst e
        refine rf fun q p => hq q ?_
        unfold onR
        obtain w | w := w
        · rw [if_pos w]; exact p
        · rw [if_neg (by rw [w]; decide), if_pos w]; exact p
      · exact absurd e2 r5'
    refine enX6_one _ d hd (Nat.le_refl _) hS ⟨fun w => s18 (Or.inl (ct.symm.trans w)), fun w => ⟨fun w2 => s18 (Or.inr (ct.symm.trans w2)), fun w2 => s31 fun y => ?_⟩⟩
    obtain y | y := y
    · exact absurd (ct.trans y) w
    · exact absurd (ct.trans y) w2
  · have f8 := f.1
    exact enX6_one _ d hd (Nat.le_refl _) hS ⟨fun w => absurd (f8.symm.trans w) (by decide), fun _ => ⟨fun w => absurd (f8.symm.trans w) (by decide), fun _ => sgX6_one_31 _ hd hS ⟨fun w => absurd (f8.symm.trans w) (by decide), fun _ => ⟨fun w => absurd (f8.symm.trans w) (by decide), fun _ => (M h _ X hS).2 kind k f hq⟩⟩⟩⟩
theorem juB (Tk : TkP K V P) {a : RP} {b D : Nat} {t : Prop} (hb2 : 2 * b ≤ 3 * P k + 2) (s : SP K P k b D t a) (z : a.1 = 0) (o : OKk K (a.2.1 + 1)) (h45 : K a.2.1 = 4 ∨ K a.2.1 = 5) : 2 * (b + a.2.2.2.length + 2) ≤ 3 * P (a.2.1 + 1) + 2 := by
  have := (s.2.2.1 z).2.2.1
  have := Tk.2.1 _ o h45
  omega
theorem juR_s {A : Nat → Nat → RP} {w cc jc : Int32} {b f : Nat} {a : RP} : juR K A w cc jc b (f + 1) a = if a.1 = 0 ∧ (decide (K a.2.1 = w)) = true then (if (A (a.2.1 + 1) (b + a.2.2.2.length + 2)).1 ≠ 0 then A (a.2.1 + 1) (b + a.2.2.2.length + 2) else juR K A w cc jc b f (0, (A (a.2.1 + 1) (b + a.2.2.2.length + 2)).2.1, a.2.2.1 ++ (A (a.2.1 + 1) (b + a.2.2.2.length + 2)).2.2.1 ++ [cc], a.2.2.2 ++ jc :: nI (b + a.2.2.2.length + 2 + (A (a.2.1 + 1) (b + a.2.2.2.length + 2)).2.2.2.length) :: (A (a.2.1 + 1) (b + a.2.2.2.length + 2)).2.2.2)) else a := by
  by_cases e : a.1 = 0 ∧ K a.2.1 = w
  · rw [juR, if_pos e, if_pos (show a.1 = 0 ∧ decide (K a.2.1 = w) = true from ⟨e.1, decide_eq_true e.2⟩)]
  · rw [juR, if_neg e, if_neg (fun (y : a.1 = 0 ∧ decide (K a.2.1 = w) = true) => e ⟨y.1, of_decide_eq_true y.2⟩)]
theorem bo_ok {O : Nat → Nat → RP} {D : Nat} (Tk : TkP K V P) (hd : 1 ≤ d) (M : MOK K V P B T d mX6_one [.ref 73, .int (nI r)] O) (SA : SubOK K P D True O) : MOK K V P B T (d + 1) mX6_both [.ref 73, .int (nI r)] (boR K O) := by
  intro h G X hS
  refine ⟨fun k sz b o hz hb2 c hq => ?_, fun kind k f hq => ?_⟩
  · refine enX6_both _ d hd (Nat.le_refl _) hS ((M h _ X hS).1 k sz b o hz hb2 c fun q1 p1 => ?_)
    have kT := okT c.1 o
    have T3 := c.1.2.1
    refine chC (X := X) (D := D) (t := True) (Loop := fun x g => E mX6_both d 0 0 7 [(0, .ref 73), (1, .int (nI r)), (2, .int (nI x))] [] g (Qv G) X) (op := fun s => decide (s = 5)) (cd := fun _ => -21) (Z := fun f a => juR K O 5 (-21) 2 b f a) (bb := fun a => b + a.2.2.2.length + 2) (rr := fun a => a.2.2.2 ++ 2 :: nI (b + a.2.2.2.length + 2 + (O (a.2.1 + 1) (b + a.2.2.2.length + 2)).2.2.2.length) :: (O (a.2.1 + 1) (b + a.2.2.2.length + 2)).2.2.2) (D' := D) (b := b) hd hS (fun f a => juR_s) (fun a s z qo => ?_) rfl M c.1 hz (fun x g hx hSg e6 hv => ?_) 302 _ 0 q1 (by omega) (SA k b o hb2) p1 (Nat.zero_le _) hq
    · have qo := of_decide_eq_true qo
      obtain ⟨g1, g2, g3⟩ := SP_juS Tk SA ju_and (Or.inr rfl) hb2 s z qo
      exact ⟨g1, g2, juB Tk hb2 s z g1 (Or.inr qo), g3⟩
    · refine sgX6_both_7 _ _ (by omega) hSg ⟨fun w => hv.1 (lpT T3 e6 w hx), fun w => ⟨fun w2 => ?_, fun w2 => hv.2.2 (decide_eq_false w2)⟩⟩
      rw [nI_1]
      exact hv.2.1 (lpN T3 e6 w hx) (decide_eq_true w2) (-21) rfl
  · refine enX6_both _ d hd (Nat.le_refl _) hS ((M h _ X hS).2 kind k f fun q1 f1 fd => ?_)
    exact sgX6_both_7 _ _ (by omega) (f1.sd hS) ⟨fun _ => hq q1 f1 fd, fun _ => ⟨fun w => absurd (fd.1.symm.trans w) (by decide), fun _ => hq q1 f1 fd⟩⟩
theorem te_ok {O : Nat → Nat → RP} {D : Nat} (Tk : TkP K V P) (hd : 1 ≤ d) (M : MOK K V P B T d mX6_both [.ref 73, .int (nI r)] (boR K O)) (SA : SubOK K P D True (boR K O)) : MOK K V P B T (d + 1) mX6_test [.ref 73, .int (nI r)] (teR K O) := by
  intro h G X hS
  refine ⟨fun k sz b o hz hb2 c hq => ?_, fun kind k f hq => ?_⟩
  · refine enX6_test _ d hd (Nat.le_refl _) hS ((M h _ X hS).1 k sz b o hz hb2 c fun q1 p1 => ?_)
    have kT := okT c.1 o
    have T3 := c.1.2.1
    refine chC (X := X) (D := D) (t := True) (Loop := fun x g => E mX6_test d 0 0 7 [(0, .ref 73), (1, .int (nI r)), (2, .int (nI x))] [] g (Qv G) X) (op := fun s => decide (s = 4)) (cd := fun _ => -20) (Z := fun f a => juR K (boR K O) 4 (-20) 1 b f a) (bb := fun a => b + a.2.2.2.length + 2) (rr := fun a => a.2.2.2 ++ 1 :: nI (b + a.2.2.2.length + 2 + (boR K O (a.2.1 + 1) (b + a.2.2.2.length + 2)).2.2.2.length) :: (boR K O (a.2.1 + 1) (b + a.2.2.2.length + 2)).2.2.2) (D' := D) (b := b) hd hS (fun f a => juR_s) (fun a s z qo => ?_) rfl M c.1 hz (fun x g hx hSg e6 hv => ?_) 302 _ 0 q1 (by omega) (SA k b o hb2) p1 (Nat.zero_le _) hq
    · have qo := of_decide_eq_true qo
      obtain ⟨g1, g2, g3⟩ := SP_juS Tk SA ju_or (Or.inl rfl) hb2 s z qo
      exact ⟨g1, g2, juB Tk hb2 s z g1 (Or.inl qo), g3⟩
    · refine sgX6_test_7 _ _ (by omega) hSg ⟨fun w => hv.1 (lpT T3 e6 w hx), fun w => ⟨fun w2 => ?_, fun w2 => hv.2.2 (decide_eq_false w2)⟩⟩
      rw [nI_1]
      exact hv.2.1 (lpN T3 e6 w hx) (decide_eq_true w2) (-20) rfl
  · refine enX6_test _ d hd (Nat.le_refl _) hS ((M h _ X hS).2 kind k f fun q1 f1 fd => ?_)
    exact sgX6_test_7 _ _ (by omega) (f1.sd hS) ⟨fun _ => hq q1 f1 fd, fun _ => ⟨fun w => absurd (fd.1.symm.trans w) (by decide), fun _ => hq q1 f1 fd⟩⟩
theorem oneN_ok (Tk : TkP K V P) : ∀ n, n ≤ 5 → MOK K V P B T (7 + 3 * n) mX6_one [.ref 73, .int (nI (5 - n))] (oneR K V n)
  | 0, _ => on_ok (D := 14) Tk (by decide) (by decide) (cm_ok Tk (by decide) (sumN_ok Tk 0 (by decide)) (SP_sum Tk 0)) (Or.inl ⟨rfl, rfl⟩)
  | n + 1, hn => by
    have ih := oneN_ok Tk n (by omega)
    have e : 5 - n = 5 - (n + 1) + 1 := by omega
    rw [e] at ih
    have so := SP_one Tk n (by omega)
    have ht := te_ok Tk (by omega) (bo_ok Tk (by omega) ih so) (SP_bo Tk so)
    exact on_ok (d := 7 + 3 * n + 2) (D := 14) Tk (by omega) (by omega) ((cm_ok Tk (by omega) (sumN_ok Tk (n + 1) hn) (SP_sum Tk (n + 1))).up (by omega)) (Or.inr ⟨_, rfl, by omega, ih.up (by omega), ht, so⟩)
theorem test_ok (Tk : TkP K V P) : MOK K V P B T 24 mX6_test [.ref 73, .int 0] (teR K (oneR K V 5)) := by
  have so := SP_one Tk 5 (by decide)
  exact te_ok (r := 0) Tk (by decide) (bo_ok (r := 0) Tk (by decide) (oneN_ok Tk 5 (by decide)) so) (SP_bo Tk so)
end READT
