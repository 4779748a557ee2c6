/-! what a call keeps: all but the places it may use -/
def Kp (s : Nat → Nat → Bool) (h q : Hp) : Prop := Std q.2.2 ∧ ∀ c k, s c k = false → q.1 c k = h.1 c k ∧ q.2.1 c k = h.2.1 c k
theorem Kp.tr {s : Nat → Nat → Bool} {h q r : Hp} (a : Kp s h q) (b : Kp s q r) : Kp s h r := ⟨b.1, fun c k z => ⟨(b.2 c k z).1.trans (a.2 c k z).1, (b.2 c k z).2.trans (a.2 c k z).2⟩⟩
theorem Kp.rf {s : Nat → Nat → Bool} {h : Hp} (hS : Std h.2.2) : Kp s h h := ⟨hS, fun _ _ _ => ⟨rfl, rfl⟩⟩
theorem Kp.i {s : Nat → Nat → Bool} {h q : Hp} (a : Kp s h q) (c k : Nat) (z : s c k = false := by rfl) : q.1 c k = h.1 c k := (a.2 c k z).1
theorem Kp.l {s : Nat → Nat → Bool} {h q : Hp} (a : Kp s h q) (c k : Nat) (z : s c k = false := by rfl) : q.2.1 c k = h.2.1 c k := (a.2 c k z).2
theorem Fr.kp {L : List Nat} {fs : List (Nat × Nat)} {s : Nat → Nat → Bool} {h q : Hp} (f : Fr L fs h q) (hS : Std h.2.2) (hL : ∀ c ∈ L, ∀ k, s c k = true) (hf : ∀ p ∈ fs, s p.1 p.2 = true := by decide) : Kp s h q := ⟨f.sd hS, fun c k z => by
  have no : inW L fs c k = false := by
    simp only [inW, Bool.or_eq_false_iff, List.contains_eq_mem, decide_eq_false_iff_not]
    refine ⟨fun y => ?_, fun y => ?_⟩
    · rw [hL c y k] at z; cases z
    · have := hf _ y
      simp only at this
      rw [this] at z; cases z
  exact f.2 c k no⟩
/-- the class's working places -/
def scL (c : Nat) : Bool := (decide (30 ≤ c) && decide (c ≤ 62) && !decide (c = 57)) || decide (c = 71) || decide (c = 72) || decide (c = 90)
def scr (c k : Nat) : Bool := scL c || (decide (c = 57) && !decide (k = 8))
/-- the reference's -/
def smL (c : Nat) : Bool := (decide (112 ≤ c) && decide (c ≤ 130)) || decide (c = 133) || decide (c = 134) || decide (c = 135) || decide (c = 141) || decide (c = 142)
def scm (c k : Nat) : Bool := smL c || (decide (c = 91) && (decide (k = 0) || decide (k = 42) || decide (k = 37) || decide (k = 38) || decide (k = 48) || decide (k = 49) || decide (k = 50) || decide (k = 51) || decide (k = 54)))
theorem scr_c {c k : Nat} (h : scL c = true) : scr c k = true := by rw [scr, h]; rfl
theorem scm_c {c k : Nat} (h : smL c = true) : scm c k = true := by rw [scm, h]; rfl
theorem Fr.kc {L : List Nat} {fs : List (Nat × Nat)} {h q : Hp} (f : Fr L fs h q) (hS : Std h.2.2) (hL : ∀ c ∈ L, scL c = true := by decide) (hf : ∀ p ∈ fs, scr p.1 p.2 = true := by decide) : Kp scr h q := f.kp hS (fun c hc _ => scr_c (hL c hc)) hf
theorem Fr.km {L : List Nat} {fs : List (Nat × Nat)} {h q : Hp} (f : Fr L fs h q) (hS : Std h.2.2) (hL : ∀ c ∈ L, smL c = true := by decide) (hf : ∀ p ∈ fs, scm p.1 p.2 = true := by decide) : Kp scm h q := f.kp hS (fun c hc _ => scm_c (hL c hc)) hf
theorem scr_lo {c k : Nat} (h : c < 30) : scr c k = false := by
  simp only [scr, scL, Bool.or_eq_false_iff, Bool.and_eq_false_iff, decide_eq_false_iff_not]
  refine ⟨⟨⟨⟨Or.inl (Or.inl (by omega)), by omega⟩, by omega⟩, by omega⟩, Or.inl (by omega)⟩
theorem scr_hi {c k : Nat} (h : 91 ≤ c) : scr c k = false := by
  simp only [scr, scL, Bool.or_eq_false_iff, Bool.and_eq_false_iff, decide_eq_false_iff_not]
  refine ⟨⟨⟨⟨Or.inl (Or.inr (by omega)), by omega⟩, by omega⟩, by omega⟩, Or.inl (by omega)⟩
theorem scm_lo {c k : Nat} (h : c < 91) : scm c k = false := by
  simp only [scm, smL, Bool.or_eq_false_iff, Bool.and_eq_false_iff, decide_eq_false_iff_not]
  refine ⟨⟨⟨⟨⟨⟨Or.inl (by omega), by omega⟩, by omega⟩, by omega⟩, by omega⟩, by omega⟩, Or.inl (by omega)⟩
/-- the coupling of class and state, as far as the land, the deeds, links and sheets go -/
def CS (σ h : Hp) : Prop := CD σ h ∧ CP σ h ∧ CL σ h ∧ CK σ h ∧ Shw (lst σ) 22 h ∧ Shw (pln σ) 26 h
section CSS
variable {σ h q : Hp}
theorem CS.lo (c : CS σ h) (e : ∀ c k, c < 30 → q.1 c k = h.1 c k ∧ q.2.1 c k = h.2.1 c k) : CS σ q := by
  obtain ⟨cd, cp, cl, ck, s1, s2⟩ := c
  refine ⟨⟨by rw [(e 8 1 (by decide)).1]; exact cd.1, fun k hk => ?_, fun k hk => ?_, fun k hk b => ?_, fun b => ?_, fun b => ?_, fun b => ?_, fun a ha b => ?_, fun a ha b => ?_, ?_, ?_⟩, ⟨by rw [(e 1 1 (by decide)).1]; exact cp.1, fun p hp => ?_⟩, ⟨?_, ?_, ?_, ?_, fun k hk => ?_, fun k hk => ?_⟩, ⟨by rw [(e 18 0 (by decide)).1]; exact ck.1, fun k hk => ?_⟩, s1.fr fun m => ⟨(e _ _ (by decide)).2, (e _ _ (by decide)).2, (e _ _ (by decide)).2⟩, s2.fr fun m => ⟨(e _ _ (by decide)).2, (e _ _ (by decide)).2, (e _ _ (by decide)).2⟩⟩
  · rw [(e 9 k (by decide)).1, (e 10 k (by decide)).1, (e 11 k (by decide)).1, (e 12 k (by decide)).1]; exact cd.de hk
  · rw [(e 13 k (by decide)).1, (e 14 k (by decide)).1]; exact cd.hand hk
  · rw [(e 17 k (by decide)).2]; exact cd.of hk b
  · rw [(e 8 11 (by decide)).2]; exact cd.sol b
  · rw [(e 8 12 (by decide)).2]; exact cd.dbt b
  · rw [(e 8 13 (by decide)).2]; exact cd.gone b
  · rw [(e 15 a (by decide)).2]; exact cd.apart ha b
  · rw [(e 16 a (by decide)).2]; exact cd.bar ha b
  · rw [(e 8 14 (by decide)).1]; exact cd.win.1
  · rw [(e 8 15 (by decide)).1]; exact cd.win.2
  · rw [(e 2 p (by decide)).1, (e 3 p (by decide)).1, (e 4 p (by decide)).1]; exact cp.2 p hp
  · rw [(e 1 0 (by decide)).1]; exact cl.1
  · rw [(e 1 5 (by decide)).1]; exact cl.2.1
  · rw [(e 1 6 (by decide)).1]; exact cl.2.2.1
  · rw [(e 1 8 (by decide)).1]; exact cl.2.2.2.1
  · rw [(e 5 k (by decide)).1]; exact cl.2.2.2.2.1 k hk
  · rw [(e 6 k (by decide)).1, (e 7 k (by decide)).1]; exact cl.2.2.2.2.2 k hk
  · rw [(e 19 k (by decide)).1, (e 20 k (by decide)).1, (e 21 k (by decide)).1]; exact ck.2 k hk
theorem CS.kc (c : CS σ h) (k : Kp scr h q) : CS σ q := c.lo fun c j hc => k.2 c j (scr_lo hc)
theorem CS.km (c : CS σ h) (k : Kp scm h q) : CS σ q := c.lo fun c j hc => k.2 c j (scm_lo (by omega))
theorem MC.kc (m : MC σ h) (k : Kp scr h q) : MC σ q := fun c j z => by
  have hc : 91 ≤ c := by
    simp only [core, Bool.or_eq_true, Bool.and_eq_true, beq_iff_eq, List.contains_eq_mem, decide_eq_true_eq] at z
    obtain z | z := z
    · omega
    · revert z; revert c; decide
  exact (k.2 c j (scr_hi hc)).1.trans (m c j z)
theorem core_scm {c k : Nat} (z : core c k = true) : scm c k = false := by
  simp only [core, Bool.or_eq_true, Bool.and_eq_true, beq_iff_eq, List.contains_eq_mem, decide_eq_true_eq] at z
  obtain ⟨rfl, z⟩ | z := z
  · revert z; revert k; decide
  · have : c ≤ 111 ∧ 92 ≤ c := by revert z; revert c; decide
    simp only [scm, smL, Bool.or_eq_false_iff, Bool.and_eq_false_iff, decide_eq_false_iff_not]
    refine ⟨⟨⟨⟨⟨⟨Or.inl (by omega), by omega⟩, by omega⟩, by omega⟩, by omega⟩, by omega⟩, Or.inl (by omega)⟩
theorem MC.km (m : MC σ h) (k : Kp scm h q) : MC σ q := fun c j z => (k.2 c j (core_scm z)).1.trans (m c j z)
theorem CS.n (c : CS σ h) : h.1 8 1 = nI (nD σ) := c.1.1
theorem CS.mk (V : VS σ) (c : CS σ h) : h.1 1 5 = nI (nM σ) := by rw [c.2.2.1.2.1, V.m.1]
end CSS
theorem kc_R {S : Nat} {h q : Hp} {L : List Nat} {fs : List (Nat × Nat)} (sh : ShOK S) (hS : Std h.2.2) (f : Fr L fs (hR h 34 2 (some S)) q) (hL : ∀ c ∈ L, scL c = true := by decide) (hf : ∀ p ∈ fs, scr p.1 p.2 = true := by decide) : Kp scr h q := by
  have k := f.kc (std_R hS) hL hf
  exact ⟨k.1, fun c j z => k.2 c j z⟩
def SR (late : Bool) : Nat := if late then 22 else 26
theorem SR_ok (late : Bool) : ShOK (SR late) := by
  cases late
  · exact shok_26
  · exact shok_22
theorem wS_03 {σ : Hp} (V : VS σ) (late : Bool) (k j : Nat) : S03 (wS σ late k j) := by
  cases late
  · exact (V.s03 (16 * k + j)).2
  · exact (V.s03 (16 * k + j)).1
theorem CS.sr {σ h : Hp} (c : CS σ h) (late : Bool) : Shw (wS σ late) (SR late) h := by
  cases late
  · exact c.2.2.2.2.2
  · exact c.2.2.2.2.1
theorem ok_sheet {h : Hp} {d : Nat} {F : Nat → Hp → Prop} {X : String → Hp → Prop} {late : Bool} (hd : 1 ≤ d) (hS : Std h.2.2) (hq : F (SR late) h) : OKr d mX11_sheet [.ref 0, .int (bI late)] h F X := by
  refine enX11_sheet _ hd hS ?_
  cases late
  · exact ⟨fun _ => hq, fun z => absurd rfl z⟩
  · exact ⟨fun z => absurd z (by decide), fun _ => hq⟩
