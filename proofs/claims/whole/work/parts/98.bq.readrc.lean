/-! rights read: the reference's chains -/
section READRC
variable {K V : Nat → Int32} {P B : Nat → Nat} {Y : Hp → Nat → Prop} {h q g : Hp} {d k b op kind : Nat} {X : String → Hp → Prop} {F : Int32 → Hp → Prop} {G : Hp → Prop}
theorem TkP.kP (Tk : TkP K V P) : ∀ k, OKk K k → k ≤ P k
  | 0, _ => Nat.zero_le _
  | k + 1, o => by
    have := Tk.kP k fun j hj => o j (by omega)
    have := Tk.1 k o
    omega
theorem TkP.k300 (Tk : TkP K V P) (o : OKk K k) : k ≤ 300 := Nat.le_trans (Tk.kP k o) (Tk.2.2.1 k o)
theorem chM {Loop : Hp → Prop} {μ : MI} {A : Nat → Nat → RP} {opr : Int32 → Bool} {rc : Int32 → Int32} {dM D : Nat} (W : YOK K V B Y) (Tk : TkP K V P) (hd : 2 ≤ dM) (hS : Std h.2.2) (hA : SubOK K P D False A) (hop : OpOK opr rc) (hb2 : 2 * b ≤ 3 * P k + 2) (M : NOK K P B Y op dM μ A)
    (hLp : ∀ g k, Std g.2.2 → Y g k → g.1 91 73 = 0 → ((opr (K k) = true → OKv dM mX12_next [.ref 91] g (fun g2 => OKv dM μ [.ref 91] g2 (fun g3 => OKv dM mX12_emit [.ref 91, .int (rc (K k))] g3 (fun g4 => Loop g4) X) X) X) ∧ (opr (K k) = false → G g)) → Loop g)
    (hLf : ∀ g kind k, Std g.2.2 → RFd B g kind k → G g → Loop g) :
    ∀ (f : Nat) (a : RP) (g : Hp), 300 < f + a.2.1 → SP K P k b (D + 1) False a → PMr B Y h b op a g → (∀ q, PMr B Y h b op (chR K A opr rc b f a) q → G q) → Loop g := by
  intro f
  induction f with
  | zero =>
    intro a g hT s p hq
    have := Tk.k300 s.2.1
    omega
  | succ f ih =>
    intro a g hT s p hq
    rw [chR] at hq
    by_cases ha : a.1 = 0
    · obtain ⟨c, w1, w2⟩ := p.2.1 ha
      have hSg := p.1.sd hS
      refine hLp g a.2.1 hSg c.1 c.2.1 ⟨fun wo => ?_, fun wo => ?_⟩
      · rw [if_pos ⟨ha, wo⟩] at hq
        obtain ⟨o1, hs, nx⟩ := SP_chS Tk hA hop hb2 s ha wo
        have hb3 := chB Tk hb2 s ha o1
        refine ok_nextR W hd hSg o1 c fun g2 f2 c2 => (M g2 _ X (f2.sd hSg)).1 (a.2.1 + 1) _ o1 hb3 c2 fun g3 p3 => ?_
        have hS3 := p3.1.sd (f2.sd hSg)
        have F3 : FM h g3 := Fr.tr p.1 (Fr.tr f2.mono p3.1)
        by_cases z : (A (a.2.1 + 1) (b + a.2.2.2.length)).1 = 0
        · rw [if_neg (fun y => y z)] at hq
          obtain ⟨c3, y1, y2⟩ := p3.2.1 z
          have b5 := b500 (b := b + a.2.2.2.length + (A (a.2.1 + 1) (b + a.2.2.2.length)).2.2.2.length) Tk hs.2.1 (by have := (hs.2.2.1 z).2.2.1; omega)
          refine ok_emR W (by omega) hS3 (by omega) c3 fun g4 f4 c4 e4 b4 => ih _ g4 ?_ (nx z) ⟨Fr.tr F3 f4.mono, fun _ => ⟨?_, ?_⟩, fun y => absurd rfl y⟩ hq
          · have := (hs.2.2.1 z).1
            show 300 < f + (A (a.2.1 + 1) (b + a.2.2.2.length)).2.1; omega
          · show RSt Y g4 (A (a.2.1 + 1) (b + a.2.2.2.length)).2.1 (b + (_ ++ _ ++ [_]).length) op
            rw [List.length_append, List.length_append, List.length_singleton, ← Nat.add_assoc, ← Nat.add_assoc]
            exact c4
          · have c1 := cdA (g0 := h) w1 w2 y1 fun i hi => by rw [y2 i hi, f2.i 137]
            have := cdA (g0 := h) (x := a.2.2.2 ++ (A (a.2.1 + 1) (b + a.2.2.2.length)).2.2.2) (y := [rc (K a.2.1)]) (g2 := g4) c1.1 c1.2 (cd1 (by rw [List.length_append, ← Nat.add_assoc]; exact e4)) fun i hi => b4 i (by rw [List.length_append] at hi; omega)
            exact this
        · rw [if_pos z] at hq
          have fd := p3.2.2 z
          have fin := hq g3 ⟨F3, fun y => absurd y z, fun _ => fd⟩
          exact ok_emRF (by omega) hS3 fd (hLf g3 _ _ hS3 fd fin)
      · rw [if_neg (fun y => by rw [wo] at y; exact absurd y.2 (by decide))] at hq
        exact hq g p
    · rw [if_neg (fun y => ha y.1)] at hq
      exact hLf g _ _ (p.1.sd hS) (p.2.2 ha) (hq g p)
theorem itemM_ok {sub : Option (Nat → Nat → RP)} {D : Nat} (W : YOK K V B Y) (Tk : TkP K V P) (hd : 2 ≤ d) (M : NOK K P B Y op d mX12_readAtom (atR K V sub)) (SA : SubOK K P D False (atR K V sub)) : NOK K P B Y op (d + 1) mX12_readItem (itR K V sub) := by
  intro h G X hS
  have lf : ∀ g kind k, Std g.2.2 → RFd B g kind k → G g → E mX12_readItem d 0 0 4 [(0, .ref 91)] [] g (Qv G) X := fun g kind k hS f hg => sgX12_readItem_4 (by omega) hS (ok_isSignF (by omega) hS f ⟨fun _ => hg, fun w => absurd rfl w⟩)
  refine ⟨fun k b o hb2 c hq => ?_, fun kind k f hq => ?_⟩
  · refine enX12_readItem d hd (Nat.le_refl _) hS ((M h _ X hS).1 k b o hb2 c fun q1 p1 => ?_)
    refine chM (X := X) (Loop := fun g => E mX12_readItem d 0 0 4 [(0, .ref 91)] [] g (Qv G) X) W Tk (by omega) hS SA opI_ok hb2 M (fun g k hSg y b0 hv => ?_) lf 302 _ q1 (by omega) ((SA k b o hb2).up (Nat.le_succ _)) p1 hq
    exact sgX12_readItem_4 (by omega) hSg (ok_isSignR W (by omega) hSg (by decide) ⟨y, b0⟩ ⟨fun w => hv.2 (bI_0.mp w), fun w => hv.1 (bI_n0.mp w)⟩)
  · exact enX12_readItem d hd (Nat.le_refl _) hS ((M h _ X hS).2 kind k f fun q1 f1 fd => lf q1 _ _ (f1.sd hS) fd (hq q1 f1 fd))
theorem sumM_ok {sub : Option (Nat → Nat → RP)} {D : Nat} (W : YOK K V B Y) (Tk : TkP K V P) (hd : 2 ≤ d) (M : NOK K P B Y op d mX12_readItem (itR K V sub)) (SA : SubOK K P D False (itR K V sub)) : NOK K P B Y op (d + 1) mX12_readSum (suR K V sub) := by
  intro h G X hS
  have lf : ∀ g kind k, Std g.2.2 → RFd B g kind k → G g → E mX12_readSum d 0 0 4 [(0, .ref 91)] [] g (Qv G) X := fun g kind k hS f hg => sgX12_readSum_4 (by omega) hS (ok_isSignF (by omega) hS f ⟨fun _ => ok_isSignF (by omega) hS f ⟨fun _ => hg, fun w => absurd rfl w⟩, fun w => absurd rfl w⟩)
  refine ⟨fun k b o hb2 c hq => ?_, fun kind k f hq => ?_⟩
  · refine enX12_readSum d hd (Nat.le_refl _) hS ((M h _ X hS).1 k b o hb2 c fun q1 p1 => ?_)
    refine chM (X := X) (Loop := fun g => E mX12_readSum d 0 0 4 [(0, .ref 91)] [] g (Qv G) X) W Tk (by omega) hS SA opS_ok hb2 M (fun g k hSg y b0 hv => ?_) lf 302 _ q1 (by omega) ((SA k b o hb2).up (Nat.le_succ _)) p1 hq
    have s22 : opS (K k) = true → E mX12_readSum d 0 0 22 [(0, .ref 91)] [] g (Qv G) X := fun wo => by
      have go := hv.1 wo
      refine sgX12_readSum_22 (by omega) hSg (ok_isSignR W (by omega) hSg (by decide) ⟨y, b0⟩ ⟨fun w => ?_, fun w => ?_⟩)
      · have e : rcS (K k) = 5 := if_neg (of_decide_eq_false (bI_0.mp w))
        rw [e] at go
        exact sgX12_readSum_36 _ (by omega) hSg go
      · have e : rcS (K k) = 4 := if_pos (of_decide_eq_true (bI_n0.mp w))
        rw [e] at go
        exact sgX12_readSum_36 _ (by omega) hSg go
    refine sgX12_readSum_4 (by omega) hSg (ok_isSignR W (by omega) hSg (by decide) ⟨y, b0⟩ ⟨fun w => ok_isSignR W (by omega) hSg (by decide) ⟨y, b0⟩ ⟨fun w2 => hv.2 ?_, fun w2 => s22 ?_⟩, fun w => s22 ?_⟩)
    · rw [opS, bI_0.mp w, bI_0.mp w2]; rfl
    · rw [opS, bI_n0.mp w2, Bool.or_true]
    · rw [opS, bI_n0.mp w]; rfl
  · exact enX12_readSum d hd (Nat.le_refl _) hS ((M h _ X hS).2 kind k f fun q1 f1 fd => lf q1 _ _ (f1.sd hS) fd (hq q1 f1 fd))
theorem sumNM_ok (W : YOK K V B Y) (Tk : TkP K V P) : ∀ n, n ≤ 5 → NOK K P B Y (5 - n) (13 + 3 * n) mX12_readSum (sumR K V n)
  | 0, _ => sumM_ok W Tk (by decide) (itemM_ok W Tk (by decide) (atomM_ok (D := 1) W Tk (by decide) (by decide) (Or.inl ⟨rfl, rfl⟩)) (SP_at Tk (D := 1) (by decide) fun S e => nomatch e)) (SP_it Tk (D := 1) (by decide) fun S e => nomatch e)
  | n + 1, hn => by
    have ih := sumNM_ok W Tk n (by omega)
    have e : 5 - n = 5 - (n + 1) + 1 := by omega
    rw [e] at ih
    have hs : ∀ S, some (sumR K V n) = some S → SubOK K P (3 + 2 * n) False S := fun S e => by
      injection e with e
      rw [← e]; exact SP_sum Tk n
    exact sumM_ok (d := 13 + 3 * n + 2) (D := 3 + 2 * n + 1) W Tk (by omega) (itemM_ok (D := 3 + 2 * n) W Tk (by omega) (atomM_ok (D := 3 + 2 * n) W Tk (by omega) (by omega) (Or.inr ⟨_, rfl, by omega, ih, SP_sum Tk n⟩)) (SP_at Tk (by omega) hs)) (SP_it Tk (by omega) hs)
end READRC
