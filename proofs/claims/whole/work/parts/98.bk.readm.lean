/-! rights read: the class's methods -/
section READM
variable {K V : Nat → Int32} {P B : Nat → Nat} {T : Nat} {h q g : Hp} {d k sz kind r : Nat} {X : String → Hp → Prop} {G : Hp → Prop}
theorem nI_r1 {r : Nat} : nI r + 1 = nI (r + 1) := nI_1 r
theorem r5 {r : Nat} (hr : r ≤ 5) : (nI r < 5 ↔ r < 5) := by
  rw [lit_nI 5]; exact nI_ltI (by omega) (by omega)
theorem atom_ok {sub : Option (Nat → Nat → RP)} {D : Nat} (Tk : TkP K V P) (hr : r ≤ 5) (hd : 2 ≤ d) (hsub : (sub = none ∧ r = 5) ∨ ∃ S, sub = some S ∧ r < 5 ∧ MOK K V P B T d mX6_sum [.ref 73, .int (nI (r + 1))] S ∧ SubOK K P D False S) : MOK K V P B T (d + 1) mX6_atom [.ref 73, .int (nI r)] (atR K V sub) := by
  intro h G X hS
  refine ⟨fun k sz b o hz hb2 c hq => ?_, fun kind k f hq => ?_⟩
  · have kT := okT c.1 o
    have T3 := c.1.2.1
    have ct := c.2.2.2.1
    have c7 := c.2.2.1
    have s71 : ¬ K k = 15 → ¬ (7 ≤ K k ∧ K k < 14) → E mX6_atom d 0 0 71 [(0, .ref 73), (1, .int (nI r))] [] h (Qv G) X := fun n1 n2 => by
      have hq := hq
      unfold atR at hq
      rw [if_neg n1, if_neg n2] at hq
      have rf : ∀ kd : Nat, (kd ≠ 0 ∧ kd ≤ 4) → (∀ q, PCr K V B T h sz (flR K k kd) q → G q) → OKv d mX6_refuse [.ref 73, .int (nI kd)] h G X := fun kd hk hq => ok_refC (by omega) hS o hz hk c fun q f fd => hq q ⟨f.mono, fun z => absurd z (fl_n hk.1), fun _ => fd⟩
      refine sgX6_atom_71 _ (by omega) hS ⟨fun w => ⟨fun w2 => ?_, fun w2 => ?_⟩, fun w => ?_⟩
      · rw [ct] at w
        rw [if_pos w] at hq
        obtain ⟨_, e⟩ | ⟨S, e, e2, M, SS⟩ := hsub
        · exact absurd ((r5 hr).mp w2) (by omega)
        · subst e
          have o1 : OKk K (k + 1) := o.s (by rw [w]; decide) (by rw [w]; decide)
          have p1 := Tk.1 k o1
          have hs := SS (k + 1) b o1 (by omega)
          refine ok_advC (by omega) hS o1 c fun q1 f1 c1 => ?_
          rw [nI_r1]
          refine (M q1 _ X (f1.sd hS)).1 (k + 1) sz b o1 (by omega) (by omega) c1 fun q2 p2 => ?_
          have hS2 := p2.1.sd (f1.sd hS)
          have F2 : FR h q2 := Fr.tr f1.mono p2.1
          have hq : ∀ q, PCr K V B T h sz (if (S (k + 1) b).1 ≠ 0 then S (k + 1) b else if K (S (k + 1) b).2.1 = 41 then (0, (S (k + 1) b).2.1 + 1, (S (k + 1) b).2.2.1, (S (k + 1) b).2.2.2) else flR K (S (k + 1) b).2.1 2) q → G q := hq
          by_cases z : (S (k + 1) b).1 = 0
          · rw [if_neg (fun y => y z)] at hq
            obtain ⟨c2, w1, w2⟩ := p2.2.1 z
            have v := (hs.2.2.1 z)
            refine ok_expC (by omega) hS2 hs.2.1 (by omega) (by decide) c2 (fun w q3 f3 c3 => ?_) fun w q3 f3 fd => ?_
            · rw [if_pos w] at hq
              exact hq q3 ⟨Fr.tr F2 f3.mono, fun _ => ⟨c3, fun i hi => by rw [f3.i 79]; exact w1 i hi, fun i hi => by rw [f3.i 79, w2 i hi, f1.i 79]⟩, fun y => absurd rfl y⟩
            · rw [if_neg w] at hq
              exact hq q3 ⟨Fr.tr F2 f3.mono, fun y => absurd y (fl_n (by decide)), fun _ => fd⟩
          · rw [if_pos z] at hq
            exact ok_expF (by omega) hS2 (by decide) (p2.2.2 z) fun q3 f3 fd => hq q3 ⟨Fr.tr F2 f3, fun y => absurd y z, fun _ => fd⟩
      · rw [ct] at w
        rw [if_pos w] at hq
        obtain ⟨e, _⟩ | ⟨S, e, e2, _⟩ := hsub
        · subst e
          exact rf 4 (by decide) hq
        · exact absurd ((r5 hr).mpr e2) w2
      · rw [ct] at w
        rw [if_neg w] at hq
        exact rf 2 (by decide) hq
    refine enX6_atom _ d hd (Nat.le_refl _) hS ⟨fun w => ?_, fun w => ⟨fun w2 => ?_, fun w2 => ⟨fun w3 => ?_, fun w3 => ?_⟩⟩⟩
    · rw [ct] at w
      unfold atR at hq
      rw [if_pos w] at hq
      have o1 : OKk K (k + 1) := o.s (by rw [w]; decide) (by rw [w]; decide)
      have k1 := okT c.1 o1
      rw [c7, nI_clamp (by omega), (c.1.2.2.2 k kT).2.2.1 w]
      refine ⟨vin (by omega), ok_emC (by omega) hS (by omega) c fun q1 f1 c1 e1 b1 => ok_advC (by omega) (f1.sd hS) o1 c1 fun q2 f2 c2 => hq q2 ⟨Fr.tr f1.mono f2.mono, fun _ => ⟨c2, fun i hi => ?_, fun i hi => by rw [f2.i 79]; exact b1 i hi⟩, fun y => absurd rfl y⟩⟩
      have : i = 0 := Nat.lt_one_iff.mp hi
      subst this
      rw [f2.i 79]; exact e1
    · rw [ct] at w w2
      exact s71 w fun y => absurd w2 (Int32.not_lt.mpr y.1)
    · rw [ct] at w w3
      exact s71 w fun y => absurd y.2 (Int32.not_lt.mpr w3)
    · rw [ct] at w w2 w3 ⊢
      have nm : 7 ≤ K k ∧ K k < 14 := ⟨Int32.not_lt.mp w2, Int32.not_le.mp w3⟩
      unfold atR at hq
      rw [if_neg w, if_pos nm] at hq
      obtain ⟨j, hj, ej⟩ := nm_of _ nm.1 nm.2
      obtain ⟨_, _, c3, c4, _⟩ := nm_c j hj
      have o1 : OKk K (k + 1) := o.s (by rw [ej]; exact c3) (by rw [ej]; exact c4)
      have k1 := okT c.1 o1
      refine ok_emC (by omega) hS (by omega) c fun q1 f1 c1 e1 b1 => ok_advC (by omega) (f1.sd hS) o1 c1 fun q2 f2 c2 => hq q2 ⟨Fr.tr f1.mono f2.mono, fun _ => ⟨c2, fun i hi => ?_, fun i hi => by rw [f2.i 79]; exact b1 i hi⟩, fun y => absurd rfl y⟩
      have : i = 0 := Nat.lt_one_iff.mp hi
      subst this
      rw [f2.i 79]; exact e1
  · have f8 := f.1
    refine enX6_atom _ d hd (Nat.le_refl _) hS ⟨fun w => absurd (f8.symm.trans w) (by decide), fun _ => ⟨fun w2 => absurd w2 (by rw [f8]; decide), fun _ => ⟨fun _ => sgX6_atom_71 _ (by omega) hS ⟨fun w => absurd (f8.symm.trans w) (by decide), fun _ => ok_refF (by omega) hS f hq⟩, fun w3 => absurd (show (14 : Int32) ≤ h.1 73 8 by rw [f8]; decide) w3⟩⟩⟩
theorem chB (Tk : TkP K V P) {a : RP} {b D : Nat} {t : Prop} (hb2 : 2 * b ≤ 3 * P k + 2) (s : SP K P k b D t a) (z : a.1 = 0) (o : OKk K (a.2.1 + 1)) : 2 * (b + a.2.2.2.length) ≤ 3 * P (a.2.1 + 1) + 2 := by
  have := (s.2.2.1 z).2.2.1
  have := Tk.1 _ o
  omega
theorem lpT {x : Nat} {g : Hp} (hT : T ≤ 300) (e6 : g.1 73 6 = nI T) (w : g.1 73 6 ≤ nI x) (hx : x ≤ T) : T ≤ x := by
  rw [e6] at w; exact (nI_leI (by omega) (by omega)).mp w
theorem lpN {x : Nat} {g : Hp} (hT : T ≤ 300) (e6 : g.1 73 6 = nI T) (w : ¬ g.1 73 6 ≤ nI x) (hx : x ≤ T) : x < T := by
  rw [e6] at w; exact Nat.not_le.mp fun y => w (nI_le y (by omega))
theorem item_ok {sub : Option (Nat → Nat → RP)} {D : Nat} (Tk : TkP K V P) (hd : 1 ≤ d) (M : MOK K V P B T d mX6_atom [.ref 73, .int (nI r)] (atR K V sub)) (SA : SubOK K P D False (atR K V sub)) : MOK K V P B T (d + 1) mX6_item [.ref 73, .int (nI r)] (itR K V sub) := by
  intro h G X hS
  refine ⟨fun k sz b o hz hb2 c hq => ?_, fun kind k f hq => ?_⟩
  · refine enX6_item _ d hd (Nat.le_refl _) hS ((M h _ X hS).1 k sz b o hz hb2 c fun q1 p1 => ?_)
    have kT := okT c.1 o
    have T3 := c.1.2.1
    refine chC (X := X) (D := D) (t := False) (Loop := fun x g => E mX6_item d 0 0 7 [(0, .ref 73), (1, .int (nI r)), (2, .int (nI x))] [] g (Qv G) X) (op := opI) (cd := fun s => -s) (Z := fun f a => chR K (atR K V sub) opI rcI b f a) (bb := fun a => b + a.2.2.2.length) (rr := fun a => a.2.2.2 ++ (atR K V sub (a.2.1 + 1) (b + a.2.2.2.length)).2.2.2 ++ [rcI (K a.2.1)]) (D' := D + 1) (b := b) hd hS (fun f a => rfl) (fun a s z qo => ?_) rfl M c.1 hz (fun x g hx hSg e6 hv => ?_) 302 _ 0 q1 (by omega) ((SA k b o hb2).up (Nat.le_succ _)) p1 (Nat.zero_le _) hq
    · obtain ⟨g1, g2, g3⟩ := SP_chS Tk SA opI_ok hb2 s z qo
      exact ⟨g1, g2, chB Tk hb2 s z g1, g3⟩
    · refine sgX6_item_7 _ _ (by omega) hSg ⟨fun w => hv.1 (lpT T3 e6 w hx), fun w => ⟨fun w2 => ?_, fun w2 => hv.2.2 (decide_eq_false w2)⟩⟩
      rw [nI_1]
      exact hv.2.1 (lpN T3 e6 w hx) (decide_eq_true w2) (-42) (by rw [w2])
  · refine enX6_item _ d hd (Nat.le_refl _) hS ((M h _ X hS).2 kind k f fun q1 f1 fd => ?_)
    exact sgX6_item_7 _ _ (by omega) (f1.sd hS) ⟨fun _ => hq q1 f1 fd, fun _ => ⟨fun w => absurd (fd.1.symm.trans w) (by decide), fun _ => hq q1 f1 fd⟩⟩
theorem sum_ok {sub : Option (Nat → Nat → RP)} {D : Nat} (Tk : TkP K V P) (hd : 1 ≤ d) (M : MOK K V P B T d mX6_item [.ref 73, .int (nI r)] (itR K V sub)) (SA : SubOK K P D False (itR K V sub)) : MOK K V P B T (d + 1) mX6_sum [.ref 73, .int (nI r)] (suR K V sub) := by
  intro h G X hS
  refine ⟨fun k sz b o hz hb2 c hq => ?_, fun kind k f hq => ?_⟩
  · refine enX6_sum _ d hd (Nat.le_refl _) hS ((M h _ X hS).1 k sz b o hz hb2 c fun q1 p1 => ?_)
    have kT := okT c.1 o
    have T3 := c.1.2.1
    refine chC (X := X) (D := D) (t := False) (Loop := fun x g => E mX6_sum d 0 0 7 [(0, .ref 73), (1, .int (nI r)), (2, .int (nI x))] [] g (Qv G) X) (op := opS) (cd := fun s => -s) (Z := fun f a => chR K (itR K V sub) opS rcS b f a) (bb := fun a => b + a.2.2.2.length) (rr := fun a => a.2.2.2 ++ (itR K V sub (a.2.1 + 1) (b + a.2.2.2.length)).2.2.2 ++ [rcS (K a.2.1)]) (D' := D + 1) (b := b) hd hS (fun f a => rfl) (fun a s z qo => ?_) rfl M c.1 hz (fun x g hx hSg e6 hv => ?_) 302 _ 0 q1 (by omega) ((SA k b o hb2).up (Nat.le_succ _)) p1 (Nat.zero_le _) hq
    · obtain ⟨g1, g2, g3⟩ := SP_chS Tk SA opS_ok hb2 s z qo
      exact ⟨g1, g2, chB Tk hb2 s z g1, g3⟩
    · refine sgX6_sum_7 _ _ (by omega) hSg ⟨fun w => hv.1 (lpT T3 e6 w hx), fun w => ⟨fun w2 => ?_, fun w2 => ⟨fun w3 => ?_, fun w3 => hv.2.2 (by rw [opS, decide_eq_false w2, decide_eq_false w3]; rfl)⟩⟩⟩
      · rw [nI_1]
        exact hv.2.1 (lpN T3 e6 w hx) (by rw [opS, decide_eq_true w2]; rfl) _ rfl
      · rw [nI_1]
        exact hv.2.1 (lpN T3 e6 w hx) (by rw [opS, decide_eq_true w3, Bool.or_true]) _ rfl
  · refine enX6_sum _ d hd (Nat.le_refl _) hS ((M h _ X hS).2 kind k f fun q1 f1 fd => ?_)
    exact sgX6_sum_7 _ _ (by omega) (f1.sd hS) ⟨fun _ => hq q1 f1 fd, fun _ => ⟨fun w => absurd (fd.1.symm.trans w) (by decide), fun _ => ⟨fun w => absurd (fd.1.symm.trans w) (by decide), fun _ => hq q1 f1 fd⟩⟩⟩
theorem sumN_ok (Tk : TkP K V P) : ∀ n, n ≤ 5 → MOK K V P B T (5 + 3 * n) mX6_sum [.ref 73, .int (nI (5 - n))] (sumR K V n)
  | 0, _ => sum_ok Tk (by decide) (item_ok Tk (by decide) (atom_ok (D := 1) Tk (by decide) (by decide) (Or.inl ⟨rfl, rfl⟩)) (SP_at Tk (D := 1) (by decide) fun S e => nomatch e)) (SP_it Tk (D := 1) (by decide) fun S e => nomatch e)
  | n + 1, hn => by
    have ih := sumN_ok Tk n (by omega)
    have e : 5 - n = 5 - (n + 1) + 1 := by omega
    rw [e] at ih
    have hs : ∀ S, some (sumR K V n) = some S → SubOK K P (3 + 2 * n) False S := fun S e => by
      injection e with e
      rw [← e]; exact SP_sum Tk n
    exact sum_ok (d := 5 + 3 * n + 2) (D := 3 + 2 * n + 1) Tk (by omega) (item_ok (D := 3 + 2 * n) Tk (by omega) (atom_ok (D := 3 + 2 * n) Tk (by omega) (by omega) (Or.inr ⟨_, rfl, by omega, ih, SP_sum Tk n⟩)) (SP_at Tk (by omega) hs)) (SP_it Tk (by omega) hs)
end READM
