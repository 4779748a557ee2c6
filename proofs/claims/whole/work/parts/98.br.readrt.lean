/-! rights read: the reference's tests -/
section READRT
variable {K V : Nat → Int32} {P B : Nat → Nat} {Y : Hp → Nat → Prop} {h q g : Hp} {d k b op kind : Nat} {X : String → Hp → Prop} {F : Int32 → Hp → Prop} {G : Hp → Prop}
theorem ok_opensR (W : YOK K V B Y) (hd : 3 ≤ d) (hS : Std h.2.2) (hr : op ≤ 5) (s : RSt Y h k b op) (h1 : op = 5 → ∀ q, Fr [] [(91, 73), (91, 74)] h q → RFd B q (flR K k 4).1 k → F 0 q) (h2 : op < 5 → OKk K (k + 1) ∧ ∀ q, FM h q → (∀ i, q.1 137 i = h.1 137 i) → RSt Y q (k + 1) b (op + 1) → F 1 q) : OKi d mX12_opens [.ref 91] h F X := by
  have e5 : h.1 91 78 = nI op := s.2.2.2
  refine enX12_opens hd hS ⟨fun w5 => ?_, fun w5 => ?_⟩
  · rw [e5, lit_nI 5] at w5
    have w5 := nI_inj (by omega) (by omega) w5
    exact ok_wrongR (kd := 4) W (by decide) hS (by decide) ⟨s.1, s.2.1⟩ fun q f fd => h1 w5 q f fd
  · rw [e5, lit_nI 5] at w5
    have lt : op < 5 := by
      refine Nat.lt_of_le_of_ne hr fun z => w5 (by rw [z])
    obtain ⟨o1, fin⟩ := h2 lt
    rw [e5, nI_1]
    have c0 : RSt Y (hI h 91 78 (nI (op + 1))) k b (op + 1) := ⟨W.2.1 _ _ _ s.1 Fr.pI, s.2.1, s.2.2.1, rfl⟩
    refine ok_nextR W (by decide) hS o1 c0 fun q1 f1 c1 => fin q1 (Fr.tr (Fr.pI : FM h (hI h 91 78 (nI (op + 1)))) f1.mono) (fun i => by rw [f1.i 137, hI_c (by decide)]) c1
theorem chJ {Loop : Hp → Prop} {μ : MI} {A : Nat → Nat → RP} {w cc jc : Int32} {dM D : Nat} (W : YOK K V B Y) (Tk : TkP K V P) (hd : 2 ≤ dM) (hS : Std h.2.2) (hA : SubOK K P D True A) (J : JuOK cc jc) (hw : w = 4 ∨ w = 5) (hb2 : 2 * b ≤ 3 * P k + 2) (M : NOK K P B Y op dM μ A)
    (hLp : ∀ g k, Std g.2.2 → Y g k → g.1 91 73 = 0 → ((K k = w → OKv dM mX12_next [.ref 91] g (fun g2 => OKv dM mX12_emit [.ref 91, .int jc] g2 (fun g3 => OKv dM mX12_emit [.ref 91, .int 0] g3 (fun g4 => OKv dM μ [.ref 91] g4 (fun g5 => ((g5.1 91 73 = 0 → (vp_in (g3.1 91 77) 500 ∧ Loop (hI g5 137 (g3.1 91 77).toNatClampNeg (g5.1 91 77)))) ∧ (¬ g5.1 91 73 = 0 → Loop g5))) X) X) X) X) ∧ (K k ≠ w → G g)) → Loop g)
    (hLf : ∀ g kind k, Std g.2.2 → RFd B g kind k → G g → Loop g) :
    ∀ (f : Nat) (a : RP) (g : Hp), 300 < f + a.2.1 → SP K P k b D True a → PMr B Y h b op a g → (∀ q, PMr B Y h b op (juR K A w cc jc b f a) q → G q) → Loop g := by
  intro f
  induction f with
  | zero =>
    intro a g hT s p hq
    have := Tk.k300 s.2.1
    omega
  | succ f ih =>
    intro a g hT s p hq
    rw [juR] at hq
    by_cases ha : a.1 = 0
    · obtain ⟨c, w1, w2⟩ := p.2.1 ha
      have hSg := p.1.sd hS
      refine hLp g a.2.1 hSg c.1 c.2.1 ⟨fun wo => ?_, fun wo => ?_⟩
      · rw [if_pos ⟨ha, wo⟩] at hq
        obtain ⟨o1, hs, nx⟩ := SP_juS Tk hA J hw hb2 s ha wo
        have hb3 := juB Tk hb2 s ha o1 (by rw [wo]; exact hw)
        have b3 := b500 (b := b + a.2.2.2.length + 2) Tk o1 (by omega)
        refine ok_nextR W hd hSg o1 c fun g2 f2 c2 => ok_emR W (by omega) (f2.sd hSg) (by omega) c2 fun g3 f3 c3 e3 r3 => ok_emR W (by omega) (f3.sd (f2.sd hSg)) (by omega) c3 fun g4 f4 c4 e4 r4 => ?_
        have hS4 := f4.sd (f3.sd (f2.sd hSg))
        refine (M g4 _ X hS4).1 (a.2.1 + 1) (b + a.2.2.2.length + 2) o1 hb3 c4 fun g5 p5 => ?_
        have hS5 := p5.1.sd hS4
        have F5 : FM h g5 := Fr.tr p.1 (Fr.tr f2.mono (Fr.tr f3.mono (Fr.tr f4.mono p5.1)))
        by_cases z : (A (a.2.1 + 1) (b + a.2.2.2.length + 2)).1 = 0
        · rw [if_neg (fun y => y z)] at hq
          obtain ⟨c5, y1, y2⟩ := p5.2.1 z
          refine ⟨fun _ => ?_, fun y => absurd c5.2.1 y⟩
          rw [c3.2.2.1, nI_clamp (by omega), c5.2.2.1]
          refine ⟨vin (by omega), ?_⟩
          have F6 : FM h (hI g5 137 (b + a.2.2.2.length + 1) (nI (b + a.2.2.2.length + 2 + (A (a.2.1 + 1) (b + a.2.2.2.length + 2)).2.2.2.length))) := Fr.tr F5 Fr.pI
          refine ih _ _ ?_ (nx z) ⟨F6, fun _ => ⟨⟨W.2.1 _ _ _ c5.1 Fr.pI, c5.2.1, ?_, c5.2.2.2⟩, ?_⟩, fun y => absurd rfl y⟩ hq
          · have := (hs.2.2.1 z).1
            show 300 < f + (A (a.2.1 + 1) (b + a.2.2.2.length + 2)).2.1; omega
          · show (hI g5 137 _ _).1 91 77 = nI (b + (_ ++ _ :: _ :: _).length)
            rw [List.length_append, List.length_cons, List.length_cons, hI_c (by decide), c5.2.2.1]
            congr 1; omega
          · refine cdA (g0 := h) (x := a.2.2.2) (y := jc :: nI (b + a.2.2.2.length + 2 + (A (a.2.1 + 1) (b + a.2.2.2.length + 2)).2.2.2.length) :: (A (a.2.1 + 1) (b + a.2.2.2.length + 2)).2.2.2) w1 w2 (fun i hi => ?_) fun i hi => ?_
            · match i, hi with
              | 0, _ => rw [hI_j (by omega), y2 _ (by omega), r4 _ (by omega), Nat.add_zero, e3]; rfl
              | 1, _ => rw [hI_k]; rfl
              | i + 2, hi =>
                simp only [List.length_cons] at hi
                rw [hI_j (by omega), show b + a.2.2.2.length + (i + 2) = b + a.2.2.2.length + 2 + i by omega, y1 i (by omega)]; rfl
            · rw [hI_j (by omega), y2 _ (by omega), r4 _ (by omega), r3 _ (by omega), f2.i 137]
        · rw [if_pos z] at hq
          have fd := p5.2.2 z
          have fin := hq g5 ⟨F5, fun y => absurd y z, fun _ => fd⟩
          exact ⟨fun y => absurd y fd.ne0, fun _ => hLf g5 _ _ hS5 fd fin⟩
      · rw [if_neg (fun y => wo y.2)] at hq
        exact hq g p
    · rw [if_neg (fun y => ha y.1)] at hq
      exact hLf g _ _ (p.1.sd hS) (p.2.2 ha) (hq g p)
theorem boM_ok {O : Nat → Nat → RP} {D : Nat} (W : YOK K V B Y) (Tk : TkP K V P) (hd : 9 ≤ d) (M : NOK K P B Y op d mX12_readOne O) (SA : SubOK K P D True O) : NOK K P B Y op (d + 1) mX12_readBoth (boR K O) := by
  intro h G X hS
  have lf : ∀ g kind k, Std g.2.2 → RFd B g kind k → G g → E mX12_readBoth d 0 0 4 [(0, .ref 91)] [] g (Qv G) X := fun g kind k hS f hg => sgX12_readBoth_4 (by omega) hS (W.2.2.2.2 g d _ X 46 5 (by omega) hS f.ne0 (by decide) ⟨fun _ => hg, fun w => absurd rfl w⟩)
  refine ⟨fun k b o hb2 c hq => ?_, fun kind k f hq => ?_⟩
  · refine enX12_readBoth d (by omega) (Nat.le_refl _) hS ((M h _ X hS).1 k b o hb2 c fun q1 p1 => ?_)
    refine chJ (X := X) (Loop := fun g => E mX12_readBoth d 0 0 4 [(0, .ref 91)] [] g (Qv G) X) W Tk (by omega) hS SA ju_and (Or.inr rfl) hb2 M (fun g k hSg y b0 hv => ?_) lf 302 _ q1 (by omega) (SA k b o hb2) p1 hq
    exact sgX12_readBoth_4 (by omega) hSg (W.2.2.2.1 g k d _ X 46 5 (by omega) hSg y b0 (by decide) ⟨fun w => hv.2 (of_decide_eq_false (bI_0.mp w)), fun w => hv.1 (of_decide_eq_true (bI_n0.mp w))⟩)
  · exact enX12_readBoth d (by omega) (Nat.le_refl _) hS ((M h _ X hS).2 kind k f fun q1 f1 fd => lf q1 _ _ (f1.sd hS) fd (hq q1 f1 fd))
theorem teM_ok {O : Nat → Nat → RP} {D : Nat} (W : YOK K V B Y) (Tk : TkP K V P) (hd : 9 ≤ d) (M : NOK K P B Y op d mX12_readBoth (boR K O)) (SA : SubOK K P D True (boR K O)) : NOK K P B Y op (d + 1) mX12_readTest (teR K O) := by
  intro h G X hS
  have lf : ∀ g kind k, Std g.2.2 → RFd B g kind k → G g → E mX12_readTest d 0 0 4 [(0, .ref 91)] [] g (Qv G) X := fun g kind k hS f hg => sgX12_readTest_4 (by omega) hS (W.2.2.2.2 g d _ X 47 4 (by omega) hS f.ne0 (by decide) ⟨fun _ => hg, fun w => absurd rfl w⟩)
  refine ⟨fun k b o hb2 c hq => ?_, fun kind k f hq => ?_⟩
  · refine enX12_readTest d (by omega) (Nat.le_refl _) hS ((M h _ X hS).1 k b o hb2 c fun q1 p1 => ?_)
    refine chJ (X := X) (Loop := fun g => E mX12_readTest d 0 0 4 [(0, .ref 91)] [] g (Qv G) X) W Tk (by omega) hS SA ju_or (Or.inl rfl) hb2 M (fun g k hSg y b0 hv => ?_) lf 302 _ q1 (by omega) (SA k b o hb2) p1 hq
    exact sgX12_readTest_4 (by omega) hSg (W.2.2.2.1 g k d _ X 47 4 (by omega) hSg y b0 (by decide) ⟨fun w => hv.2 (of_decide_eq_false (bI_0.mp w)), fun w => hv.1 (of_decide_eq_true (bI_n0.mp w))⟩)
  · exact enX12_readTest d (by omega) (Nat.le_refl _) hS ((M h _ X hS).2 kind k f fun q1 f1 fd => lf q1 _ _ (f1.sd hS) fd (hq q1 f1 fd))
theorem onM_ok {sub : Option (Nat → Nat → RP)} {S : Nat → Nat → RP} {D D2 : Nat} (W : YOK K V B Y) (Tk : TkP K V P) (hr : op ≤ 5) (hd : 9 ≤ d) (M : NOK K P B Y op d mX12_readSum S) (SS : SubOK K P D2 False S) (hsub : (sub = none ∧ op = 5) ∨ ∃ O, sub = some O ∧ op < 5 ∧ NOK K P B Y (op + 1) d mX12_readOne O ∧ NOK K P B Y (op + 1) d mX12_readTest (teR K O) ∧ SubOK K P D True O) : NOK K P B Y op (d + 1) mX12_readOne (onR K sub S) := by
  intro h G X hS
  refine ⟨fun k b o hb2 c hq => ?_, fun kind k f hq => enX12_readOne d hd (Nat.le_refl _) hS ⟨fun w => absurd w f.ne0, fun _ => hq h Fr.rf f⟩⟩
  have b5 := b500 Tk o (b := b) (by omega)
  have sgn := fun {c : Int32} (hc : ty c = 3) (F : Int32 → Hp → Prop) (g : Hp) (kk : Nat) (hSg : Std g.2.2) (s : Y g kk ∧ g.1 91 73 = 0) (hF : F (bI (decide (K kk = c))) g) => ok_isSignR (X := X) (d := d) W (by omega) hSg hc s hF
  refine enX12_readOne d hd (Nat.le_refl _) hS ⟨fun _ => W.2.2.2.1 h k d _ X 45 6 (by omega) hS c.1 c.2.1 (by decide) ⟨fun w => ?_, fun w => ?_⟩, fun w => absurd c.2.1 w⟩
  · have n6 := of_decide_eq_false (bI_0.mp w)
    unfold onR at hq
    rw [if_neg n6] at hq
    refine sgn (by decide) _ h k hS ⟨c.1, c.2.1⟩ ⟨fun w2 => ?_, fun w2 => ?_⟩
    · have n91 := of_decide_eq_false (bI_0.mp w2)
      rw [if_neg n91] at hq
      unfold cmR at hq
      have s := SS k b o hb2
      refine (M h _ X hS).1 k b o hb2 c fun q1 p1 => ?_
      have hS1 := p1.1.sd hS
      have s142 : ∀ x : Int32, E mX12_readOne d 0 0 142 [(0, .ref 91), (1, .int x)] [] q1 (Qv G) X → E mX12_readOne d 0 0 142 [(0, .ref 91), (1, .int x)] [] q1 (Qv G) X := fun _ z => z
      by_cases z : (S k b).1 = 0
      · rw [if_neg (fun y => y z)] at hq
        obtain ⟨c1, w1, w2'⟩ := p1.2.1 z
        have v := s.2.2.1 z
        have yes : isC (K (S k b).2.1) = true → E mX12_readOne d 0 0 142 [(0, .ref 91), (1, .int (rcC (K (S k b).2.1)))] [] q1 (Qv G) X := fun wc => by
          rw [if_pos wc] at hq
          obtain ⟨n16, n17, _⟩ := opC_ok _ wc
          have o1 : OKk K ((S k b).2.1 + 1) := s.2.1.s n16 n17
          have b2 := chB Tk hb2 s z o1
          have s2 := SS _ _ o1 b2
          refine sgX12_readOne_142 _ hd hS1 ⟨fun _ => ok_nextR W (by omega) hS1 o1 c1 fun q2 f2 c2 => (M q2 _ X (f2.sd hS1)).1 _ _ o1 b2 c2 fun q3 p3 => ?_, fun y => absurd c1.2.1 y⟩
          have hS3 := p3.1.sd (f2.sd hS1)
          have F3 : FM h q3 := Fr.tr p1.1 (Fr.tr f2.mono p3.1)
          by_cases z2 : (S ((S k b).2.1 + 1) (b + (S k b).2.2.2.length)).1 = 0
          · rw [if_neg (fun y => y z2)] at hq
            obtain ⟨c3, y1, y2⟩ := p3.2.1 z2
            have b6 := b500 (b := b + (S k b).2.2.2.length + (S ((S k b).2.1 + 1) (b + (S k b).2.2.2.length)).2.2.2.length) Tk s2.2.1 (by have := (s2.2.2.1 z2).2.2.1; omega)
            refine ok_emR W (by omega) hS3 (by omega) c3 fun q4 f4 c4 e4 b4 => hq q4 ⟨Fr.tr F3 f4.mono, fun _ => ⟨?_, ?_⟩, fun y => absurd rfl y⟩
            · show RSt Y q4 _ (b + (_ ++ _ ++ [_]).length) op
              rw [List.length_append, List.length_append, List.length_singleton, ← Nat.add_assoc, ← Nat.add_assoc]
              exact c4
            · have k1 := cdA (g0 := h) w1 w2' y1 fun i hi => by rw [y2 i hi, f2.i 137]
              exact cdA (g0 := h) (x := (S k b).2.2.2 ++ (S ((S k b).2.1 + 1) (b + (S k b).2.2.2.length)).2.2.2) (y := [rcC (K (S k b).2.1)]) (g2 := q4) k1.1 k1.2 (cd1 (by rw [List.length_append, ← Nat.add_assoc]; exact e4)) fun i hi => b4 i (by rw [List.length_append] at hi; omega)
          · rw [if_pos z2] at hq
            have fd := p3.2.2 z2
            exact ok_emRF (by omega) hS3 fd (hq q3 ⟨F3, fun y => absurd y z2, fun _ => fd⟩)
        have s131 : isC (K (S k b).2.1) = true → ∀ x, x = rcC (K (S k b).2.1) → E mX12_readOne d 0 0 131 [(0, .ref 91)] [.int x] q1 (Qv G) X := fun wc x ex => by
          refine sgX12_readOne_131 _ hd hS1 ⟨fun y => ?_, fun _ => by rw [ex]; exact yes wc⟩
          rw [ex] at y
          unfold rcC at y
          split at y
          · exact absurd y (by decide)
          · split at y
            · exact absurd y (by decide)
            · exact absurd y (by decide)
        refine sgn (by decide) _ q1 _ hS1 ⟨c1.1, c1.2.1⟩ ⟨fun x1 => sgn (by decide) _ q1 _ hS1 ⟨c1.1, c1.2.1⟩ ⟨fun x2 => sgn (by decide) _ q1 _ hS1 ⟨c1.1, c1.2.1⟩ ⟨fun x3 => ?_, fun x3 => ?_⟩, fun x2 => ?_⟩, fun x1 => ?_⟩
        · have no : ¬ isC (K (S k b).2.1) = true := fun y => by
            rw [isC, bI_0.mp x1, bI_0.mp x2, bI_0.mp x3] at y; exact absurd y (by decide)
          rw [if_neg no] at hq
          refine sgX12_readOne_131 _ hd hS1 ⟨fun _ => ok_wrongR (kd := 2) W (by omega) hS1 (by decide) ⟨c1.1, c1.2.1⟩ fun q2 f2 fd => sgX12_readOne_142 _ hd (f2.sd hS1) ⟨fun y => absurd y fd.ne0, fun _ => hq q2 ⟨Fr.tr p1.1 f2.mono, fun y => absurd y (fl_n (by decide)), fun _ => fd⟩⟩, fun y => absurd rfl y⟩
        · refine s131 (by rw [isC, bI_n0.mp x3, Bool.or_true]) _ ?_
          rw [rcC, if_neg (of_decide_eq_false (bI_0.mp x1)), if_neg (of_decide_eq_false (bI_0.mp x2))]
        · refine s131 (by rw [isC, bI_n0.mp x2, Bool.or_true, Bool.true_or]) _ ?_
          rw [rcC, if_neg (of_decide_eq_false (bI_0.mp x1)), if_pos (of_decide_eq_true (bI_n0.mp x2))]
        · refine s131 (by rw [isC, bI_n0.mp x1, Bool.true_or, Bool.true_or]) _ ?_
          rw [rcC, if_pos (of_decide_eq_true (bI_n0.mp x1))]
      · rw [if_pos z] at hq
        have fd := p1.2.2 z
        have fin := hq q1 ⟨p1.1, fun y => absurd y z, fun _ => fd⟩
        exact ok_isSignF (by omega) hS1 fd ⟨fun _ => ok_isSignF (by omega) hS1 fd ⟨fun _ => ok_isSignF (by omega) hS1 fd ⟨fun _ => sgX12_readOne_131 _ hd hS1 ⟨fun _ => ok_wrongF (by omega) hS1 fd (sgX12_readOne_142 _ hd hS1 ⟨fun y => absurd y fd.ne0, fun _ => fin⟩), fun y => absurd rfl y⟩, fun y => absurd rfl y⟩, fun y => absurd rfl y⟩, fun y => absurd rfl y⟩
    · have w2 := of_decide_eq_true (bI_n0.mp w2)
      rw [if_pos w2] at hq
      refine ok_opensR W (by omega) hS hr c (fun e5 q f fd => ?_) fun lt => ?_
      · obtain ⟨e, _⟩ | ⟨O, e, e2, _⟩ := hsub
        · subst e
          exact ⟨fun _ => hq q ⟨f.mono, fun z => absurd z (fl_n (by decide)), fun _ => fd⟩, fun z => absurd rfl z⟩
        · omega
      · obtain ⟨e, e5⟩ | ⟨O, e, e2, MO, MT, SO⟩ := hsub
        · omega
        · subst e
          have o1 : OKk K (k + 1) := o.s (by rw [w2]; decide) (by rw [w2]; decide)
          have p1 := Tk.1 k o1
          have s := SP_te Tk SO (k + 1) b o1 (by omega)
          refine ⟨o1, fun q1 f1 n1 c1 => ⟨fun z => absurd z (by decide), fun _ => (MT q1 _ X (f1.sd hS)).1 (k + 1) b o1 (by omega) c1 fun q2 p2 => ?_⟩⟩
          have hS2 := p2.1.sd (f1.sd hS)
          have F2 : FM h q2 := Fr.tr f1 p2.1
          have hq : ∀ q, PMr B Y h b op (if (teR K O (k + 1) b).1 ≠ 0 then teR K O (k + 1) b else if K (teR K O (k + 1) b).2.1 = 93 then (0, (teR K O (k + 1) b).2.1 + 1, (teR K O (k + 1) b).2.2.1, (teR K O (k + 1) b).2.2.2) else flR K (teR K O (k + 1) b).2.1 2) q → G q := hq
          by_cases z : (teR K O (k + 1) b).1 = 0
          · rw [if_neg (fun y => y z)] at hq
            obtain ⟨c2, w1, w2'⟩ := p2.2.1 z
            refine ok_needR W (by omega) hS2 (by decide) s.2.1 ⟨c2.1, c2.2.1⟩ (fun w q3 f3 y3 => ?_) fun w q3 f3 fd => ?_
            · rw [if_pos w] at hq
              have e7 : q3.1 91 78 = nI (op + 1) := by rw [f3.i 91 78]; exact c2.2.2.2
              rw [e7, nI_m1]
              have Y9 : Y (hI q3 91 78 (nI op)) _ := W.2.1 _ _ _ y3 Fr.pI
              refine hq _ ⟨Fr.tr F2 (Fr.tr f3.mono Fr.pI), fun _ => ⟨⟨Y9, ?_, ?_, rfl⟩, fun i hi => ?_, fun i hi => ?_⟩, fun y => absurd rfl y⟩
              · show q3.1 91 73 = 0; rw [f3.i 91 73]; exact c2.2.1
              · show q3.1 91 77 = _; rw [f3.i 91 77]; exact c2.2.2.1
              · rw [hI_c (by decide), f3.i 137]; exact w1 i hi
              · rw [hI_c (by decide), f3.i 137, w2' i hi, n1]
            · rw [if_neg w] at hq
              exact hq _ ⟨Fr.tr F2 (Fr.tr f3.mono Fr.pI), fun y => absurd y (fl_n (by decide)), fun _ => fd⟩
          · rw [if_pos z] at hq
            exact ok_needF (by omega) hS2 (p2.2.2 z) (hq _ ⟨Fr.tr F2 Fr.pI, fun y => absurd y z, fun _ => p2.2.2 z⟩)
  · have w := of_decide_eq_true (bI_n0.mp w)
    unfold onR at hq
    rw [if_pos w] at hq
    refine ok_opensR W (by omega) hS hr c (fun e5 q f fd => ?_) fun lt => ?_
    · obtain ⟨e, _⟩ | ⟨O, e, e2, _⟩ := hsub
      · subst e
        exact ⟨fun _ => hq q ⟨f.mono, fun z => absurd z (fl_n (by decide)), fun _ => fd⟩, fun z => absurd rfl z⟩
      · omega
    · obtain ⟨e, e5⟩ | ⟨O, e, e2, MO, MT, SO⟩ := hsub
      · omega
      · subst e
        have o1 : OKk K (k + 1) := o.s (by rw [w]; decide) (by rw [w]; decide)
        have p1 := Tk.1 k o1
        have s := SO (k + 1) b o1 (by omega)
        refine ⟨o1, fun q1 f1 n1 c1 => ⟨fun z => absurd z (by decide), fun _ => (MO q1 _ X (f1.sd hS)).1 (k + 1) b o1 (by omega) c1 fun q2 p2 => ?_⟩⟩
        have hS2 := p2.1.sd (f1.sd hS)
        have F2 : FM h q2 := Fr.tr f1 p2.1
        have hq : ∀ q, PMr B Y h b op (if (O (k + 1) b).1 ≠ 0 then O (k + 1) b else (0, (O (k + 1) b).2.1, (O (k + 1) b).2.2.1 ++ [-22], (O (k + 1) b).2.2.2 ++ [3])) q → G q := hq
        by_cases z : (O (k + 1) b).1 = 0
        · rw [if_neg (fun y => y z)] at hq
          obtain ⟨c2, w1, w2'⟩ := p2.2.1 z
          have b6 := b500 (b := b + (O (k + 1) b).2.2.2.length) Tk s.2.1 (by have := (s.2.2.1 z).2.2.1; omega)
          refine ok_emR W (by omega) hS2 (by omega) c2 fun q3 f3 c3 e3 b3 => ?_
          have e7 : q3.1 91 78 = nI (op + 1) := c3.2.2.2
          rw [e7, nI_m1]
          have Y9 : Y (hI q3 91 78 (nI op)) _ := W.2.1 _ _ _ c3.1 Fr.pI
          have cc := cdA (g0 := q1) (x := (O (k + 1) b).2.2.2) (y := [3]) (g2 := q3) w1 w2' (cd1 e3) b3
          refine hq _ ⟨Fr.tr F2 (Fr.tr f3.mono Fr.pI), fun _ => ⟨⟨Y9, c3.2.1, ?_, rfl⟩, fun i hi => ?_, fun i hi => ?_⟩, fun y => absurd rfl y⟩
          · show q3.1 91 77 = nI (b + (_ ++ [_]).length)
            rw [List.length_append, List.length_singleton, ← Nat.add_assoc]; exact c3.2.2.1
          · rw [hI_c (by decide)]; exact cc.1 i hi
          · rw [hI_c (by decide), cc.2 i hi, n1]
        · rw [if_pos z] at hq
          exact ok_emRF (by omega) hS2 (p2.2.2 z) (hq _ ⟨Fr.tr F2 Fr.pI, fun y => absurd y z, fun _ => p2.2.2 z⟩)
theorem oneNM_ok (W : YOK K V B Y) (Tk : TkP K V P) : ∀ n, n ≤ 5 → NOK K P B Y (5 - n) (14 + 3 * n) mX12_readOne (oneR K V n)
  | 0, _ => onM_ok (D := 14) (D2 := 3) W Tk (by decide) (by decide) (sumNM_ok W Tk 0 (by decide)) (SP_sum Tk 0) (Or.inl ⟨rfl, rfl⟩)
  | n + 1, hn => by
    have ih := oneNM_ok W Tk n (by omega)
    have e : 5 - n = 5 - (n + 1) + 1 := by omega
    rw [e] at ih
    have so := SP_one Tk n (by omega)
    have ht := teM_ok W Tk (by omega) (boM_ok W Tk (by omega) ih so) (SP_bo Tk so)
    exact onM_ok (d := 14 + 3 * n + 2) (D := 14) (D2 := 3 + 2 * (n + 1)) W Tk (by omega) (by omega) ((sumNM_ok W Tk (n + 1) hn).up (by omega)) (SP_sum Tk (n + 1)) (Or.inr ⟨_, rfl, by omega, ih.up (by omega), ht, so⟩)
theorem testM_ok (W : YOK K V B Y) (Tk : TkP K V P) : NOK K P B Y 0 31 mX12_readTest (teR K (oneR K V 5)) := by
  have so := SP_one Tk 5 (by decide)
  exact teM_ok (op := 0) W Tk (by decide) (boM_ok (op := 0) W Tk (by decide) (oneNM_ok W Tk 5 (by decide)) so) (SP_bo Tk so)
end READRT
