/-! rights read: the reference's sums -/
section READRM
variable {K V : Nat → Int32} {P B : Nat → Nat} {Y : Hp → Nat → Prop} {h q g : Hp} {d k b op kind : Nat} {X : String → Hp → Prop} {F : Int32 → Hp → Prop} {G : Hp → Prop}
theorem b500 (Tk : TkP K V P) (o : OKk K k) (hb2 : 2 * b ≤ 3 * P k + 3) : b < 490 := by
  have := Tk.2.2.1 k o
  omega
/-- codes that are told, behind each other -/
theorem cdA {g1 g2 g0 : Hp} {x y : List Int32} (h1 : ∀ i, i < x.length → g1.1 137 (b + i) = x.getD i 0) (h0 : ∀ i, i < b → g1.1 137 i = g0.1 137 i) (k1 : ∀ i, i < y.length → g2.1 137 (b + x.length + i) = y.getD i 0) (k0 : ∀ i, i < b + x.length → g2.1 137 i = g1.1 137 i) : (∀ i, i < (x ++ y).length → g2.1 137 (b + i) = (x ++ y).getD i 0) ∧ ∀ i, i < b → g2.1 137 i = g0.1 137 i := by
  refine ⟨fun i hi => ?_, fun i hi => by rw [k0 i (by omega)]; exact h0 i hi⟩
  rw [List.length_append] at hi
  rw [List.getD_eq_getElem?_getD]
  by_cases i1 : i < x.length
  · rw [List.getElem?_append_left i1, ← List.getD_eq_getElem?_getD, k0 _ (by omega)]; exact h1 i i1
  · rw [List.getElem?_append_right (by omega), ← List.getD_eq_getElem?_getD, ← k1 _ (by omega), show b + x.length + (i - x.length) = b + i by omega]
theorem cd1 {g : Hp} {v : Int32} {c : Nat} (e : g.1 137 c = v) : ∀ i, i < [v].length → g.1 137 (c + i) = [v].getD i 0 := fun i hi => by
  have : i = 0 := Nat.lt_one_iff.mp hi
  rw [this]; exact e
theorem atomM_ok {sub : Option (Nat → Nat → RP)} {D : Nat} (W : YOK K V B Y) (Tk : TkP K V P) (hr : op ≤ 5) (hd : 10 ≤ d) (hsub : (sub = none ∧ op = 5) ∨ ∃ S, sub = some S ∧ op < 5 ∧ NOK K P B Y (op + 1) d mX12_readSum S ∧ SubOK K P D False S) : NOK K P B Y op (d + 1) mX12_readAtom (atR K V sub) := by
  intro h G X hS
  refine ⟨fun k b o hb2 c hq => ?_, fun kind k f hq => ?_⟩
  · have b5 := b500 Tk o (b := b) (by omega)
    obtain ⟨y1, y2, y3, y4⟩ := W.1 h k c.1
    refine enX12_readAtom d hd (Nat.le_refl _) hS ⟨fun _ => ok_nameNow W (by omega) hS ⟨c.1, c.2.1⟩ ⟨fun w => ?_, fun w => ⟨fun w2 => ?_, fun w2 => ?_⟩⟩, fun w => absurd c.2.1 w⟩
    · have w := ty_2.mp (y1.symm.trans w)
      unfold atR at hq
      rw [if_pos w] at hq
      have o1 : OKk K (k + 1) := o.s (by rw [w]; decide) (by rw [w]; decide)
      refine ok_emR W (by omega) hS (by omega) c fun q1 f1 c1 e1 b1 => ?_
      refine ok_emR W (by omega) (f1.sd hS) (by omega) c1 fun q2 f2 c2 e2 b2 => ok_nextR W (by omega) (f2.sd (f1.sd hS)) o1 c2 fun q3 f3 c3 => hq q3 ⟨Fr.tr f1.mono (Fr.tr f2.mono f3.mono), fun _ => ⟨c3, ?_⟩, fun z => absurd rfl z⟩
      have v : q1.1 91 72 = V k := by rw [f1.i 91 72]; exact y2 w
      have := cdA (g0 := h) (x := [0]) (y := [V k]) (cd1 e1) b1 (cd1 (show q2.1 137 (b + [(0 : Int32)].length) = V k from e2.trans v)) b2
      exact ⟨fun i hi => by rw [f3.i 137]; exact this.1 i hi, fun i hi => by rw [f3.i 137]; exact this.2 i hi⟩
    · have n15 : ¬ K k = 15 := fun z => w (y1.trans (ty_2.mpr z))
      have nn : ¬ (7 ≤ K k ∧ K k < 14) := fun z => by
        obtain ⟨j, hj, ej⟩ := nm_of _ z.1 z.2
        rw [ej] at w2
        obtain ⟨e1, e2, _⟩ := nmN_j j hj
        exact e2 (e1.symm.trans w2)
      unfold atR at hq
      rw [if_neg n15, if_neg nn] at hq
      refine ok_isSignR W (by omega) hS (by decide) ⟨c.1, c.2.1⟩ ⟨fun w3 => ?_, fun w3 => ?_⟩
      · rw [if_neg (of_decide_eq_false (bI_0.mp w3))] at hq
        exact ok_wrongR (kd := 2) W (by omega) hS (by decide) ⟨c.1, c.2.1⟩ fun q f fd => hq q ⟨f.mono, fun z => absurd z (fl_n (by decide)), fun _ => fd⟩
      · have w3 := of_decide_eq_true (bI_n0.mp w3)
        rw [if_pos w3] at hq
        have e5 : h.1 91 78 = nI op := c.2.2.2
        refine OKi.up (show 3 ≤ d by omega) (enX12_opens (Nat.le_refl _) hS ⟨fun w5 => ?_, fun w5 => ?_⟩)
        · rw [e5, lit_nI 5] at w5
          have w5 := nI_inj (by omega) (by omega) w5
          obtain ⟨e, _⟩ | ⟨S, e, e2, _⟩ := hsub
          · subst e
            exact ok_wrongR (kd := 4) W (by decide) hS (by decide) ⟨c.1, c.2.1⟩ fun q f fd => ⟨fun _ => hq q ⟨f.mono, fun z => absurd z (fl_n (by decide)), fun _ => fd⟩, fun z => absurd rfl z⟩
          · omega
        · rw [e5, lit_nI 5] at w5
          obtain ⟨e, e6⟩ | ⟨S, e, e2, M, SS⟩ := hsub
          · exact absurd (by rw [e6]) w5
          · subst e
            have o1 : OKk K (k + 1) := o.s (by rw [w3]; decide) (by rw [w3]; decide)
            have p1 := Tk.1 k o1
            have hs := SS (k + 1) b o1 (by omega)
            rw [e5, nI_1]
            have c0 : RSt Y (hI h 91 78 (nI (op + 1))) k b (op + 1) := ⟨W.2.1 _ _ _ c.1 Fr.pI, c.2.1, c.2.2.1, rfl⟩
            refine ok_nextR W (by decide) hS o1 c0 fun q1 f1 c1 => ⟨fun z => absurd z (by decide), fun _ => ?_⟩
            have hS1 : Std q1.2.2 := f1.sd (show Std (hI h 91 78 (nI (op + 1))).2.2 from hS)
            have F1 : FM h q1 := Fr.tr (Fr.pI : FM h (hI h 91 78 (nI (op + 1)))) f1.mono
            refine (M q1 _ X hS1).1 (k + 1) b o1 (by omega) c1 fun q2 p2 => ?_
            have hS2 := p2.1.sd hS1
            have F2 : FM h q2 := Fr.tr F1 p2.1
            have hq : ∀ q, PMr B Y h b op (if (S (k + 1) b).1 ≠ 0 then S (k + 1) b else if K (S (k + 1) b).2.1 = 41 then (0, (S (k + 1) b).2.1 + 1, (S (k + 1) b).2.2.1, (S (k + 1) b).2.2.2) else flR K (S (k + 1) b).2.1 2) q → G q := hq
            by_cases z : (S (k + 1) b).1 = 0
            · rw [if_neg (fun y => y z)] at hq
              obtain ⟨c2, w1, w2'⟩ := p2.2.1 z
              refine ok_needR W (by omega) hS2 (by decide) hs.2.1 ⟨c2.1, c2.2.1⟩ (fun w q3 f3 y3 => ?_) fun w q3 f3 fd => ?_
              · rw [if_pos w] at hq
                have e7 : q3.1 91 78 = nI (op + 1) := by rw [f3.i 91 78]; exact c2.2.2.2
                rw [e7, nI_m1]
                have Y9 : Y (hI q3 91 78 (nI op)) _ := W.2.1 _ _ _ y3 Fr.pI
                refine hq _ ⟨Fr.tr F2 (Fr.tr f3.mono Fr.pI), fun _ => ⟨⟨Y9, ?_, ?_, rfl⟩, fun i hi => ?_, fun i hi => ?_⟩, fun y => absurd rfl y⟩
                · show q3.1 91 73 = 0; rw [f3.i 91 73]; exact c2.2.1
                · show q3.1 91 77 = _; rw [f3.i 91 77]; exact c2.2.2.1
                · rw [hI_c (by decide), f3.i 137]; exact w1 i hi
                · rw [hI_c (by decide), f3.i 137, w2' i hi, f1.i 137, hI_c (by decide)]
              · rw [if_neg w] at hq
                exact hq _ ⟨Fr.tr F2 (Fr.tr f3.mono Fr.pI), fun y => absurd y (fl_n (by decide)), fun _ => fd⟩
            · rw [if_pos z] at hq
              exact ok_needF (by omega) hS2 (p2.2.2 z) (hq _ ⟨Fr.tr F2 Fr.pI, fun y => absurd y z, fun _ => p2.2.2 z⟩)
    · have n15 : ¬ K k = 15 := fun z => w (y1.trans (ty_2.mpr z))
      have nm : 7 ≤ K k ∧ K k < 14 := Classical.byContradiction fun z => w2 (nmN_no z)
      unfold atR at hq
      rw [if_neg n15, if_pos nm] at hq
      obtain ⟨j, hj, ej⟩ := nm_of _ nm.1 nm.2
      obtain ⟨_, c2', c3', c4', _⟩ := nm_c j hj
      obtain ⟨e1, e2, e3, _⟩ := nmN_j j hj
      have o1 : OKk K (k + 1) := o.s (by rw [ej]; exact c3') (by rw [ej]; exact c4')
      have ev : (20 : Int32) + nmN (K k) = 20 + (K k - 7) := by rw [ej, e1, c2', e3]
      rw [ev]
      refine ok_emR W (by omega) hS (by omega) c fun q1 f1 c1 e1 b1 => ok_nextR W (by omega) (f1.sd hS) o1 c1 fun q3 f3 c3 => hq q3 ⟨Fr.tr f1.mono f3.mono, fun _ => ⟨c3, fun i hi => by rw [f3.i 137]; exact cd1 e1 i hi, fun i hi => by rw [f3.i 137]; exact b1 i hi⟩, fun z => absurd rfl z⟩
  · exact enX12_readAtom d hd (Nat.le_refl _) hS ⟨fun w => absurd w f.ne0, fun _ => hq h Fr.rf f⟩
end READRM
