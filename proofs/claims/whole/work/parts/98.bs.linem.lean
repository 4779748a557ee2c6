/-! rights read: lines, by the reference -/
section LINEM
variable {K V : Nat → Int32} {P B : Nat → Nat} {Y : Hp → Nat → Prop} {h q g : Hp} {d k b num op kind : Nat} {X : String → Hp → Prop} {F : Int32 → Hp → Prop} {G : Hp → Prop} {ls : List LI}
def saysN (s : Int32) : Int32 := if s = 0 then 0 else if s = 1 then 1 else if s = 2 then 2 else -1
theorem ok_saysNow (W : YOK K V B Y) (hd : 10 ≤ d) (hS : Std h.2.2) (s : Y h k ∧ h.1 91 73 = 0) (hq : F (saysN (K k)) h) : OKi d mX12_saysNow [.ref 91] h F X := by
  unfold saysN at hq
  have is := fun (F : Int32 → Hp → Prop) i w (m : (i, w) ∈ wtab) (hF : F (bI (decide (K k = w))) h) => W.2.2.2.1 h k 9 F X i w (Nat.le_refl _) hS s.1 s.2 m hF
  refine enX12_saysNow hd hS (is _ 34 0 (by decide) ⟨fun w => ?_, fun w => ?_⟩)
  · rw [if_neg (of_decide_eq_false (bI_0.mp w))] at hq
    refine is _ 35 1 (by decide) ⟨fun w => ?_, fun w => ?_⟩
    · rw [if_neg (of_decide_eq_false (bI_0.mp w))] at hq
      refine is _ 36 2 (by decide) ⟨fun w => ?_, fun w => ?_⟩
      · rw [if_neg (of_decide_eq_false (bI_0.mp w))] at hq; exact hq
      · rw [if_pos (of_decide_eq_true (bI_n0.mp w))] at hq; exact hq
    · rw [if_pos (of_decide_eq_true (bI_n0.mp w))] at hq; exact hq
  · rw [if_pos (of_decide_eq_true (bI_n0.mp w))] at hq; exact hq
def FLM (h q : Hp) : Prop := Fr [137, 139] [(91, 69), (91, 70), (91, 71), (91, 72), (91, 73), (91, 74), (91, 77), (91, 78)] h q
theorem FM.fl (f : FM h q) : FLM h q := Fr.mono f
theorem FLM.tr (a : FLM h q) (b : FLM q g) : FLM h g := Fr.tr a b
def PLM (K : Nat → Int32) (B : Nat → Nat) (Y : Hp → Nat → Prop) (h : Hp) (k num b : Nat) (r : RLn) (q : Hp) : Prop := FLM h q ∧ (r.1 = 0 → RSt Y q r.2.1 (b + r.2.2.1.2.length + r.2.2.2.2.length) 0 ∧ (q.1 139 (4 * num) = K k ∧ q.1 139 (4 * num + 1) = nI b ∧ q.1 139 (4 * num + 2) = nI (b + r.2.2.1.2.length) ∧ q.1 139 (4 * num + 3) = nI (b + r.2.2.1.2.length + r.2.2.2.2.length)) ∧ (∀ j, j < 4 * num → q.1 139 j = h.1 139 j) ∧ (∀ i, i < r.2.2.1.2.length → q.1 137 (b + i) = r.2.2.1.2.getD i 0) ∧ (∀ i, i < r.2.2.2.2.length → q.1 137 (b + r.2.2.1.2.length + i) = r.2.2.2.2.getD i 0) ∧ ∀ i, i < b → q.1 137 i = h.1 137 i) ∧ (r.1 ≠ 0 → RFd B q r.1 r.2.1)
theorem f4 (n : Nat) : (4 : Int32) * nI n = nI (4 * n) := by rw [lit_nI 4, pk_mul]
theorem f41 (n : Nat) : nI (4 * n) + 1 = nI (4 * n + 1) := by rw [lit_nI 1, nI_add]
theorem f42 (n : Nat) : nI (4 * n) + 2 = nI (4 * n + 2) := by rw [lit_nI 2, nI_add]
theorem f43 (n : Nat) : nI (4 * n) + 3 = nI (4 * n + 3) := by rw [lit_nI 3, nI_add]
theorem RSt.put (W : YOK K V B Y) {j : Nat} {v : Int32} (s : RSt Y h k b op) : RSt Y (hI h 139 j v) k b op := ⟨W.2.1 _ _ _ s.1 Fr.pI, s.2.1, s.2.2.1, s.2.2.2⟩
theorem ok_readLine (W : YOK K V B Y) (Tk : TkP K V P) (hS : Std h.2.2) (o : OKk K k) (hn : num ≤ 12) (hb2 : 2 * b ≤ 3 * P k) (c : RSt Y h k b 0) (hq : ∀ q, PLM K B Y h k num b (liR K V k num b) q → G q) : OKv 32 mX12_readLine [.ref 91, .int (nI num)] h G X := by
  unfold liR at hq
  refine okv_of 31 (by decide +kernel) (Nat.le_of_ble_eq_true rfl) (sgX12_readLine_0 _ (by decide) hS (ok_saysNow W (by decide) hS ⟨c.1, c.2.1⟩ ?_))
  have bad29 : ∀ (kd : Nat) (x : Int32), kd ≠ 0 → (∀ q, PLM K B Y h k num b (flL K k kd) q → G q) → ∀ q, Fr [] [(91, 73), (91, 74)] h q → RFd B q (flR K k kd).1 k → E mX12_readLine 31 0 0 29 [(0, .ref 91), (1, .int (nI num)), (2, .int x)] [] q (Qv G) X := fun kd x hk hq q f fd => sgX12_readLine_29 _ _ (by decide) (f.sd hS) ⟨fun y => absurd y fd.ne0, fun _ => hq q ⟨f.mono, fun y => absurd y (fl_n hk), fun _ => fd⟩⟩
  by_cases w : K k ≠ 0 ∧ K k ≠ 1 ∧ K k ≠ 2
  · rw [if_pos w] at hq
    have e : saysN (K k) = -1 := by rw [saysN, if_neg w.1, if_neg w.2.1, if_neg w.2.2]
    rw [e]
    exact ⟨fun _ => ok_wrongR (kd := 2) W (by decide) hS (by decide) ⟨c.1, c.2.1⟩ fun q f fd => bad29 2 _ (by decide) hq q f fd, fun y => absurd rfl y⟩
  have w3 : K k = 0 ∨ K k = 1 ∨ K k = 2 := by
    by_cases e0 : K k = 0
    · exact Or.inl e0
    by_cases e1 : K k = 1
    · exact Or.inr (Or.inl e1)
    by_cases e2 : K k = 2
    · exact Or.inr (Or.inr e2)
    exact absurd ⟨e0, e1, e2⟩ w
  rw [if_neg w] at hq
  have e : saysN (K k) = K k := by obtain e | e | e := w3 <;> rw [e] <;> decide
  rw [e]
  refine ⟨fun y => (by obtain e | e | e := w3 <;> rw [e] at y <;> exact absurd y (by decide)), fun _ => ⟨fun y => ?_, fun y => ?_⟩⟩
  · rw [lit_nI 12] at y
    have y := nI_inj (by omega) (by omega) y
    rw [if_pos (by omega)] at hq
    exact ok_wrongR (kd := 3) W (by decide) hS (by decide) ⟨c.1, c.2.1⟩ fun q f fd => bad29 3 _ (by decide) hq q f fd
  have n12 : num < 12 := by
    refine Nat.lt_of_le_of_ne hn fun z => y (by rw [z, lit_nI 12])
  rw [if_neg (by omega)] at hq
  obtain ⟨o1, p1, ⟨s1, s2, s3, s4, _⟩, s5⟩ := suL_ok Tk o w3 hb2
  refine sgX12_readLine_29 _ _ (by decide) hS ⟨fun _ => ok_nextR W (by decide) hS o1 c fun q1 f1 c1 => ?_, fun y => absurd c.2.1 y⟩
  rw [f4, f41, nI_clamp (by omega), nI_clamp (by omega), c1.2.2.1]
  refine ⟨vin (by omega), vin (by omega), ?_⟩
  have F0 : FLM h (hI (hI q1 139 (4 * num) (K k)) 139 (4 * num + 1) (nI b)) := Fr.tr f1.mono (Fr.tr Fr.pI Fr.pI)
  have c0 : RSt Y (hI (hI q1 139 (4 * num) (K k)) 139 (4 * num + 1) (nI b)) (k + 1) b 0 := (c1.put W).put W
  have x0 : (hI (hI q1 139 (4 * num) (K k)) 139 (4 * num + 1) (nI b)).1 139 (4 * num) = K k := by rw [hI_j (by omega), hI_k]
  have x1 : (hI (hI q1 139 (4 * num) (K k)) 139 (4 * num + 1) (nI b)).1 139 (4 * num + 1) = nI b := hI_k
  have xj : ∀ j, j < 4 * num → (hI (hI q1 139 (4 * num) (K k)) 139 (4 * num + 1) (nI b)).1 139 j = h.1 139 j := fun j hj => by rw [hI_j (by omega), hI_j (by omega), f1.i 139]
  have z7 : ∀ i, (hI (hI q1 139 (4 * num) (K k)) 139 (4 * num + 1) (nI b)).1 137 i = h.1 137 i := fun i => by rw [hI_c (by decide), hI_c (by decide), f1.i 137]
  have hS0 : Std (hI (hI q1 139 (4 * num) (K k)) 139 (4 * num + 1) (nI b)).2.2 := F0.sd hS
  generalize hI (hI q1 139 (4 * num) (K k)) 139 (4 * num + 1) (nI b) = g0 at F0 c0 x0 x1 xj z7 hS0
  have flt105 : ∀ (g : Hp) (kd kk : Nat), FLM h g → RFd B g kd kk → (∀ q, FLM h q → RFd B q kd kk → G q) → E mX12_readLine 31 0 0 105 [(0, .ref 91), (1, .int (nI num))] [] g (Qv G) X := fun g kd kk f fd hq => by
    refine sgX12_readLine_105 _ (by decide) (f.sd hS) ?_
    rw [f4, f43, nI_clamp (by omega)]
    have f2 : FLM h (hI g 139 (4 * num + 3) (g.1 91 77)) := Fr.tr f Fr.pI
    exact ⟨vin (by omega), ok_needF (kind := kd) (k := kk) (by decide) (f.sd hS) fd (hq _ f2 fd)⟩
  have s73 : ∀ g, FM g0 g → (suL K V k b).1 = 0 → RSt Y g (suL K V k b).2.1 (b + (suL K V k b).2.2.2.length) 0 → (∀ i, i < (suL K V k b).2.2.2.length → g.1 137 (b + i) = (suL K V k b).2.2.2.getD i 0) → (∀ i, i < b → g.1 137 i = h.1 137 i) → E mX12_readLine 31 0 0 73 [(0, .ref 91), (1, .int (nI num))] [] g (Qv G) X := fun g f z1 cg w1 w0 => by
    rw [if_neg (fun y => y z1)] at hq
    obtain ⟨u1, u2, u3⟩ := s3 z1
    obtain ⟨t1, t2, t3, t4, _⟩ := ifL_ok Tk (b := b + (suL K V k b).2.2.2.length) s2 (by omega)
    have hSg := f.sd hS0
    have cg2 : RSt Y (hI g 139 (4 * num + 2) (nI (b + (suL K V k b).2.2.2.length))) (suL K V k b).2.1 (b + (suL K V k b).2.2.2.length) 0 := cg.put W
    have s105 : ∀ g2, FM (hI g 139 (4 * num + 2) (nI (b + (suL K V k b).2.2.2.length))) g2 → (ifL K V (suL K V k b).2.1 (b + (suL K V k b).2.2.2.length)).1 = 0 → RSt Y g2 (ifL K V (suL K V k b).2.1 (b + (suL K V k b).2.2.2.length)).2.1 (b + (suL K V k b).2.2.2.length + (ifL K V (suL K V k b).2.1 (b + (suL K V k b).2.2.2.length)).2.2.2.length) 0 → (∀ i, i < (ifL K V (suL K V k b).2.1 (b + (suL K V k b).2.2.2.length)).2.2.2.length → g2.1 137 (b + (suL K V k b).2.2.2.length + i) = (ifL K V (suL K V k b).2.1 (b + (suL K V k b).2.2.2.length)).2.2.2.getD i 0) → (∀ i, i < b + (suL K V k b).2.2.2.length → g2.1 137 i = g.1 137 i) → E mX12_readLine 31 0 0 105 [(0, .ref 91), (1, .int (nI num))] [] g2 (Qv G) X := fun g2 f2 z2 cg3 y1 y0 => by
      rw [if_neg (fun y => y z2)] at hq
      have hS2 : Std g2.2.2 := f2.sd hSg
      refine sgX12_readLine_105 _ (by decide) hS2 ?_
      rw [f4, f43, nI_clamp (by omega), cg3.2.2.1]
      have F2 : FLM h g2 := F0.tr (f.fl.tr (Fr.tr (Fr.pI : FLM g (hI g 139 (4 * num + 2) (nI (b + (suL K V k b).2.2.2.length)))) f2.fl))
      have F3 : FLM h (hI g2 139 (4 * num + 3) (nI (b + (suL K V k b).2.2.2.length + (ifL K V (suL K V k b).2.1 (b + (suL K V k b).2.2.2.length)).2.2.2.length))) := Fr.tr F2 Fr.pI
      have cg4 := cg3.put W (j := 4 * num + 3) (v := nI (b + (suL K V k b).2.2.2.length + (ifL K V (suL K V k b).2.1 (b + (suL K V k b).2.2.2.length)).2.2.2.length))
      refine ⟨vin (by omega), ok_needR W (by decide) hS2 (by decide) t2 ⟨cg4.1, cg4.2.1⟩ (fun w9 q3 f3 y3 => ?_) fun w9 q3 f3 fd => ?_⟩
      · rw [if_pos w9] at hq
        refine hq q3 ⟨F3.tr f3.mono, fun _ => ⟨⟨y3, ?_, ?_, ?_⟩, ⟨?_, ?_, ?_, ?_⟩, fun j hj => ?_, fun i hi => ?_, fun i hi => ?_, fun i hi => ?_⟩, fun y => absurd rfl y⟩
        · rw [f3.i 91 73]; exact cg4.2.1
        · rw [f3.i 91 77]; exact cg4.2.2.1
        · rw [f3.i 91 78]; exact cg4.2.2.2
        · rw [f3.i 139, hI_j (by omega), f2.i 139, hI_j (by omega), f.i 139]; exact x0
        · rw [f3.i 139, hI_j (by omega), f2.i 139, hI_j (by omega), f.i 139]; exact x1
        · rw [f3.i 139, hI_j (by omega), f2.i 139, hI_k]
        · rw [f3.i 139, hI_k]
        · rw [f3.i 139, hI_j (by omega), f2.i 139, hI_j (by omega), f.i 139]; exact xj j hj
        · have hi : i < (suL K V k b).2.2.2.length := hi
          show q3.1 137 (b + i) = (suL K V k b).2.2.2.getD i 0
          rw [f3.i 137, hI_c (by decide), y0 _ (by omega)]; exact w1 i hi
        · show q3.1 137 (b + (suL K V k b).2.2.2.length + i) = (ifL K V (suL K V k b).2.1 (b + (suL K V k b).2.2.2.length)).2.2.2.getD i 0
          rw [f3.i 137, hI_c (by decide)]; exact y1 i hi
        · rw [f3.i 137, hI_c (by decide), y0 _ (by omega)]; exact w0 i hi
      · rw [if_neg w9] at hq
        exact hq q3 ⟨F3.tr f3.mono, fun y => absurd y (fl_n (by decide)), fun _ => fd⟩
    refine sgX12_readLine_73 _ (by decide) hSg ?_
    rw [f4, f42, nI_clamp (by omega), cg.2.2.1]
    have hS1 : Std (hI g 139 (4 * num + 2) (nI (b + (suL K V k b).2.2.2.length))).2.2 := hSg
    refine ⟨vin (by omega), W.2.2.2.1 _ _ 31 _ X 44 3 (by decide) hS1 cg2.1 cg2.2.1 (by decide) ⟨fun w3 => ?_, fun w3 => ?_⟩⟩
    · have w3 := of_decide_eq_false (bI_0.mp w3)
      have e : ifL K V (suL K V k b).2.1 (b + (suL K V k b).2.2.2.length) = (0, (suL K V k b).2.1, [], []) := if_neg w3
      exact s105 _ Fr.rf (by rw [e]) (by rw [e]; exact cg2) (fun i hi => by rw [e] at hi; exact absurd hi (Nat.not_lt_zero _)) fun i _ => by rw [hI_c (by decide)]
    · have w3 := of_decide_eq_true (bI_n0.mp w3)
      have e : ifL K V (suL K V k b).2.1 (b + (suL K V k b).2.2.2.length) = teR K (oneR K V 5) ((suL K V k b).2.1 + 1) (b + (suL K V k b).2.2.2.length) := if_pos w3
      have o3 : OKk K ((suL K V k b).2.1 + 1) := s2.s (by rw [w3]; decide) (by rw [w3]; decide)
      have p3 := Tk.1 _ o3
      refine ok_nextR W (by decide) hS1 o3 cg2 fun q1 f1 c1 => (testM_ok W Tk q1 _ X (f1.sd hS1)).1 _ _ o3 (by omega) c1 fun q2 p2 => ?_
      rw [← e] at p2
      have F2 : FM (hI g 139 (4 * num + 2) (nI (b + (suL K V k b).2.2.2.length))) q2 := Fr.tr f1.mono p2.1
      by_cases z2 : (ifL K V (suL K V k b).2.1 (b + (suL K V k b).2.2.2.length)).1 = 0
      · obtain ⟨c2, y1, y2⟩ := p2.2.1 z2
        exact s105 q2 F2 z2 c2 y1 fun i hi => by rw [y2 i hi, f1.i 137, hI_c (by decide)]
      · rw [if_pos z2] at hq
        exact flt105 q2 _ _ (F0.tr (f.fl.tr (Fr.tr (Fr.pI : FLM g (hI g 139 (4 * num + 2) (nI (b + (suL K V k b).2.2.2.length)))) F2.fl))) (p2.2.2 z2) fun q f fd => hq q ⟨f, fun y => absurd y z2, fun _ => fd⟩
  refine ⟨fun w2 => ?_, fun w2 => ?_⟩
  · have e : suL K V k b = sumR K V 5 (k + 1) b := if_pos w2
    refine (((sumNM_ok W Tk 5 (by decide)).up (by decide : 13 + 3 * 5 ≤ 31)) g0 _ X hS0).1 (k + 1) b o1 (by omega) c0 fun q2 p2 => ?_
    rw [← e] at p2
    by_cases z1 : (suL K V k b).1 = 0
    · obtain ⟨c2, w1, w2⟩ := p2.2.1 z1
      exact s73 q2 p2.1 z1 c2 w1 fun i hi => by rw [w2 i hi]; exact z7 i
    · rw [if_pos z1] at hq
      have fd := p2.2.2 z1
      have F2 : FLM h q2 := F0.tr p2.1.fl
      refine sgX12_readLine_73 _ (by decide) (F2.sd hS) ?_
      rw [f4, f42, nI_clamp (by omega)]
      have fd2 : RFd B (hI q2 139 (4 * num + 2) (q2.1 91 77)) (suL K V k b).1 (suL K V k b).2.1 := fd
      have F3 : FLM h (hI q2 139 (4 * num + 2) (q2.1 91 77)) := Fr.tr F2 Fr.pI
      exact ⟨vin (by omega), W.2.2.2.2 _ 31 _ X 44 3 (by decide) (F3.sd hS) fd2.ne0 (by decide) ⟨fun _ => flt105 _ _ _ F3 fd2 fun q f fd => hq q ⟨f, fun y => absurd y z1, fun _ => fd⟩, fun y => absurd rfl y⟩⟩
  · have e : suL K V k b = (0, k + 1, [], []) := if_neg w2
    exact s73 g0 Fr.rf (by rw [e]) (by rw [e]; exact c0) (fun i hi => by rw [e] at hi; exact absurd hi (Nat.not_lt_zero _)) fun i _ => z7 i
end LINEM
