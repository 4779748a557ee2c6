/-! count, span, weight, parent, worth, by -/
section OPSC
variable {σ h : Hp} {d : Nat} {X : String → Hp → Prop} {late : Bool} {a b m o : Int32} {q : Bool}
def prL (σ : Hp) (late : Bool) : Nat → Int32 := prT σ (wS σ late)
def cnL (σ : Hp) (late q : Bool) (m o : Int32) : Nat := cnt σ (wS σ late) (prL σ late) q m.toNatClampNeg o.toNatClampNeg 3
theorem ok_layS {F : Hp → Prop} (hd : 4 ≤ d) (hS : Std h.2.2) (V : VS σ) (c : CS σ h) (hq : ∀ q, Kp scr h q → LK σ (wS σ late) (SR late) q → F q) : OKr d mX11_sheet [.ref 0, .int (bI late)] h (fun r1 h2 => ShOK r1 ∧ OKv d mX3_lay [.ref 34, .ref r1] h2 F X) X :=
  ok_sheet (by omega) hS ⟨SR_ok late, ok_layC (SR_ok late) hd hS V c.1 (c.mk V) (c.sr late) fun q f L => hq q (kc_R (SR_ok late) hS f) L⟩
theorem ok_layK {F : Hp → Prop} (hd : 7 ≤ d) (hS : Std h.2.2) (V : VS σ) (mc : MC σ h) (ak : h.1 91 36 = -1) (hq : ∀ q, Kp scm h q → q.1 91 0 = h.1 91 0 → RLaid σ (wS σ late) q → F q) : OKv d mX12_lay [.ref 91, .int (bI late)] h F X :=
  ok_layM hd hS V mc (asked_no ak) fun q f R => hq q (f.km hS) (f.i 91 0) R
def cdCount (σ : Hp) (m o : Int32) (n : Int32) : Nat := if isN m (nM σ) = true then (if isW o 0 n = true then 0 else 2) else 1
theorem ok_countC {F : Int32 → Hp → Prop} (hd : 8 ≤ d) (hS : Std h.2.2) (V : VS σ) (c : CS σ h) (hq : CR h (cdCount σ m o 3) (nI (cnL σ late q m o)) (t2 nse iae) F X) : OKi d mX11_count [.ref 0, .int m, .int (bI q), .int o, .int (bI late)] h F X := by
  have hM := V.m.2
  refine enX11_count _ _ _ _ hd hS (ok_needMark (by omega) hS (c.mk V) (fun h1 => ok_isW (a := 0) (b := 3) rfl rfl (by omega) hS ⟨fun z => ?_, fun z => ok_layS (by omega) hS V c fun q1 k1 L1 => ?_⟩) fun h1 => ?_)
  · have e : cdCount σ m o 3 = 2 := by rw [cdCount, h1, if_pos rfl, bI_0.mp z]; rfl
    rw [e] at hq
    exact hq.2 (by decide) h (Kp.rf hS)
  · have hw := bI_n0.mp z
    have e : cdCount σ m o 3 = 0 := by rw [cdCount, h1, hw]; rfl
    rw [e] at hq
    obtain ⟨i, hi, em⟩ := isN_t (by omega) h1
    obtain ⟨j, hj, eo⟩ := isW_n (n := 3) (by decide) hw
    subst em eo
    refine ok_tallied (SR_ok late) (by omega) k1.1 V (c.kc k1).n L1 hi (by omega) fun q2 f2 L2 => ?_
    have := hq.1 rfl q2 (k1.tr (f2.kc k1.1))
    rw [cnL, nI_clamp (by omega), nI_clamp (by omega)] at this
    exact this
  · have e : cdCount σ m o 3 = 1 := by rw [cdCount, h1]; rfl
    rw [e] at hq
    exact hq.2 (by decide) h (Kp.rf hS)
theorem ok_countM {F : Int32 → Hp → Prop} (hd : 8 ≤ d) (hS : Std h.2.2) (V : VS σ) (mc : MC σ h) (ak : h.1 91 36 = -1) (hq : MR h (cdCount σ m o 3) (nI (cnL σ late q m o)) F) : OKi d mX12_count [.ref 91, .int m, .int (bI q), .int o, .int (bI late)] h F X := by
  have hM := V.m.2
  have kk : Kp scm h (hI h 91 0 0) := k0 (Kp.rf hS)
  refine enX12_count _ _ _ _ hd hS (ok_isMarkM (by omega) kk.1 V (mc.km kk) ⟨fun z => ok_failsM (n := 1) (by omega) kk (by rw [cdCount, bI_0.mp z]; rfl) (by decide) hq, fun z => ok_isWM (a := 0) (b := 3) rfl rfl (by omega) kk.1 ⟨fun z2 => ok_failsM (n := 2) (by omega) kk (by rw [cdCount, bI_n0.mp z, bI_0.mp z2]; rfl) (by decide) hq, fun z2 => ?_⟩⟩)
  have h1 := bI_n0.mp z
  have h2 := bI_n0.mp z2
  have e : cdCount σ m o 3 = 0 := by rw [cdCount, h1, h2]; rfl
  rw [e] at hq
  obtain ⟨i, hi, em⟩ := isN_t (by omega) h1
  obtain ⟨j, hj, eo⟩ := isW_n (n := 3) (by decide) h2
  refine ok_layK (by omega) kk.1 V (mc.km kk) (by rw [hI_j (by decide)]; exact ak) fun q1 k1 e0 R1 => ?_
  have fin : ∀ r, r = nI (cnt σ (wS σ late) (prT σ (wS σ late)) q i j 3) → F r q1 := fun r er => hq q1 r (kk.tr k1) (by rw [e0, hI_k]; rfl) fun _ => by rw [er, cnL, em, eo, nI_clamp (by omega), nI_clamp (by omega)]; rfl
  rw [em, eo]
  refine ⟨fun z3 => ok_pairsOf (q := 1) (v := 3) (by omega) k1.1 hM R1.2.2.2.1 (by omega) hi (by omega) (by omega) (fin _ ?_), fun z3 => ok_pairsOf (q := 0) (v := 3) (by omega) k1.1 hM R1.2.2.2.1 (by omega) hi (by omega) (by omega) (fin _ ?_)⟩
  · rw [bI_0.mp z3]; rfl
  · rw [bI_n0.mp z3]; rfl
def vSpan (σ : Hp) (late q high : Bool) (m o : Int32) : Int32 :=
  if high then ((1000 : Int32) * (nI (cnL σ late q m o) + 2) + (nI (cnL σ late q m 3) + 2) - 1) / (nI (cnL σ late q m 3) + 2) else (1000 : Int32) * nI (cnL σ late q m o) / (nI (cnL σ late q m 3) + 2)
theorem ok_quot {F : Int32 → Hp → Prop} {x : Int32} {n : Nat} (hd : 1 ≤ d) (hS : Std h.2.2) (hn : n < 2 ^ 30) (hq : F (x / (nI n + 2)) h) : OKi d mX11_quotient [.int x, .int (nI n + 2)] h F X := by
  have e : nI n + (2 : Int32) = nI (n + 2) := nI_add n 2
  refine enX11_quotient _ _ hd hS ⟨fun z => ?_, fun z => ⟨fun z2 => ?_, hq⟩⟩
  · rw [e] at z
    exact absurd z (nI_ge (a := 0) (by omega) (by omega))
  · rw [e] at z2
    exact nI_inj (a := n + 2) (b := 0) (by omega) (by omega) z2 |> fun y => by omega
theorem ok_spanC {F : Int32 → Hp → Prop} {high : Bool} (hd : 8 ≤ d) (hS : Std h.2.2) (V : VS σ) (c : CS σ h) (hq : CR h (cdCount σ m o 2) (vSpan σ late q high m o) (t2 nse iae) F X) : OKi d mX11_span [.ref 0, .int m, .int (bI q), .int o, .int (bI late), .int (bI high)] h F X := by
  have hM := V.m.2
  refine enX11_span _ _ _ _ _ hd hS (ok_needMark (by omega) hS (c.mk V) (fun h1 => ok_isW (a := 0) (b := 2) rfl rfl (by omega) hS ⟨fun z => ?_, fun z => ok_layS (by omega) hS V c fun q1 k1 L1 => ?_⟩) fun h1 => ?_)
  · have e : cdCount σ m o 2 = 2 := by rw [cdCount, h1, if_pos rfl, bI_0.mp z]; rfl
    rw [e] at hq
    exact hq.2 (by decide) h (Kp.rf hS)
  · have hw := bI_n0.mp z
    have e : cdCount σ m o 2 = 0 := by rw [cdCount, h1, hw]; rfl
    rw [e] at hq
    obtain ⟨i, hi, em⟩ := isN_t (by omega) h1
    obtain ⟨j, hj, eo⟩ := isW_n (n := 2) (by decide) hw
    subst em eo
    refine ok_tallied (SR_ok late) (by omega) k1.1 V (c.kc k1).n L1 hi (by omega) fun q2 f2 L2 => ?_
    have k2 := k1.tr (f2.kc k1.1)
    refine ok_tallied (o := 3) (SR_ok late) (by omega) k2.1 V (c.kc k2).n L2 hi (by omega) fun q3 f3 L3 => ?_
    have k3 := k2.tr (f3.kc k2.1)
    have := hq.1 rfl q3 k3
    have e3 : cnL σ late q (nI i) 3 = cnt σ (wS σ late) (prT σ (wS σ late)) q i 3 3 := by rw [cnL, nI_clamp (by omega)]; rfl
    have ej : cnL σ late q (nI i) (nI j) = cnt σ (wS σ late) (prT σ (wS σ late)) q i j 3 := by rw [cnL, nI_clamp (by omega), nI_clamp (by omega)]; rfl
    have lt := cnt_lt (w := wS σ late) (par := prT σ (wS σ late)) V q i 3 3
    rw [vSpan, e3, ej] at this
    cases high
    · exact ⟨fun _ => ok_quot (by omega) k3.1 (by omega) this, fun z => absurd rfl z⟩
    · exact ⟨fun z => absurd z (by decide), fun _ => ok_quot (by omega) k3.1 (by omega) this⟩
  · have e : cdCount σ m o 2 = 1 := by rw [cdCount, h1]; rfl
    rw [e] at hq
    exact hq.2 (by decide) h (Kp.rf hS)
theorem ok_spanM {F : Int32 → Hp → Prop} {high : Bool} (hd : 8 ≤ d) (hS : Std h.2.2) (V : VS σ) (mc : MC σ h) (ak : h.1 91 36 = -1) (hq : MR h (cdCount σ m o 2) (vSpan σ late q high m o) F) : OKi d mX12_span [.ref 91, .int m, .int (bI q), .int o, .int (bI late), .int (bI high)] h F X := by
  have hM := V.m.2
  have kk : Kp scm h (hI h 91 0 0) := k0 (Kp.rf hS)
  refine enX12_span _ _ _ _ _ hd hS (ok_isMarkM (by omega) kk.1 V (mc.km kk) ⟨fun z => ok_failsM (n := 1) (by omega) kk (by rw [cdCount, bI_0.mp z]; rfl) (by decide) hq, fun z => ok_isWM (a := 0) (b := 2) rfl rfl (by omega) kk.1 ⟨fun z2 => ok_failsM (n := 2) (by omega) kk (by rw [cdCount, bI_n0.mp z, bI_0.mp z2]; rfl) (by decide) hq, fun z2 => ?_⟩⟩)
  have h1 := bI_n0.mp z
  have h2 := bI_n0.mp z2
  have e : cdCount σ m o 2 = 0 := by rw [cdCount, h1, h2]; rfl
  rw [e] at hq
  obtain ⟨i, hi, em⟩ := isN_t (by omega) h1
  obtain ⟨j, hj, eo⟩ := isW_n (n := 2) (by decide) h2
  subst em eo
  refine ok_layK (by omega) kk.1 V (mc.km kk) (by rw [hI_j (by decide)]; exact ak) fun q1 k1 e0 R1 => ?_
  have e3 : cnL σ late q (nI i) 3 = cnt σ (wS σ late) (prT σ (wS σ late)) q i 3 3 := by rw [cnL, nI_clamp (by omega)]; rfl
  have ej : cnL σ late q (nI i) (nI j) = cnt σ (wS σ late) (prT σ (wS σ late)) q i j 3 := by rw [cnL, nI_clamp (by omega), nI_clamp (by omega)]; rfl
  have lt := cnt_lt (w := wS σ late) (par := prT σ (wS σ late)) V q i 3 3
  have fin : ∀ r, r = vSpan σ late q high (nI i) (nI j) → F r q1 := fun r er => hq q1 r (kk.tr k1) (by rw [e0, hI_k]; rfl) fun _ => er
  have nz : ¬ nI (cnt σ (wS σ late) (prT σ (wS σ late)) q i 3 3) + (2 : Int32) = 0 := fun y => by
    have e2 : nI (cnt σ (wS σ late) (prT σ (wS σ late)) q i 3 3) + (2 : Int32) = nI (cnt σ (wS σ late) (prT σ (wS σ late)) q i 3 3 + 2) := nI_add _ 2
    rw [e2] at y
    have := nI_inj (b := 0) (by omega) (by omega) y
    omega
  have s53 : ∀ k : Nat, k < 2 → decide (k = 0) = q → E mX12_span 7 0 0 53 [(0, .ref 91), (1, .int (nI i)), (2, .int (bI q)), (3, .int (nI j)), (5, .int (bI high))] [.int (nI k), .ref 91] q1 (Qi F) X := fun k hk eq => by
    have s71 : E mX12_span 7 0 0 71 [(1, .int (nI i)), (5, .int (bI high)), (6, .int (nI (cnt σ (wS σ late) (prT σ (wS σ late)) q i j 3)))] [.int (nI k), .ref 91] q1 (Qi F) X := by
      refine sgX12_span_71 _ _ _ _ (Nat.le_refl _) k1.1 (ok_pairsOf (q := k) (o := 3) (v := 3) (by omega) k1.1 hM R1.2.2.2.1 hk hi (by omega) (by omega) ?_)
      have eq' : decide (k = 0) = q := eq
      rw [eq']
      have f2 := fin _ rfl
      rw [vSpan, e3, ej] at f2
      cases high
      · exact ⟨fun _ => ⟨nz, f2⟩, fun z => absurd rfl z⟩
      · exact ⟨fun z => absurd z (by decide), fun _ => ⟨nz, f2⟩⟩
    refine sgX12_span_53 _ _ _ _ _ (Nat.le_refl _) k1.1 (ok_pairsOf (q := k) (v := 3) (by omega) k1.1 hM R1.2.2.2.1 hk hi (by omega) (by omega) ?_)
    rw [eq]
    have hk2 : k = 0 ∨ k = 1 := by omega
    refine ⟨fun z3 => ?_, fun z3 => ?_⟩
    · have := bI_0.mp z3
      rw [this] at eq
      obtain rfl | rfl := hk2
      · cases eq
      · exact s71
    · have := bI_n0.mp z3
      rw [this] at eq
      obtain rfl | rfl := hk2
      · exact s71
      · cases eq
  exact ⟨fun z3 => s53 1 (by decide) (by rw [bI_0.mp z3]; rfl), fun z3 => s53 0 (by decide) (by rw [bI_n0.mp z3]; rfl)⟩
def cdWeight (σ : Hp) (a b : Int32) : Nat := if isN a (nM σ) = true ∧ isN b (nM σ) = true then (if a = b then 2 else 0) else 1
def vWeight (σ : Hp) (late : Bool) (a b : Int32) : Int32 := wt σ (wS σ late) a.toNatClampNeg b.toNatClampNeg
theorem ok_weightC {F : Int32 → Hp → Prop} (hd : 8 ≤ d) (hS : Std h.2.2) (V : VS σ) (c : CS σ h) (hq : CR h (cdWeight σ a b) (vWeight σ late a b) (t2 nse iae) F X) : OKi d mX11_weight [.ref 0, .int a, .int b, .int (bI late)] h F X := by
  have hM := V.m.2
  refine enX11_weight _ _ _ hd hS (ok_needMark (by omega) hS (c.mk V) (fun h1 => ok_needMark (by omega) hS (c.mk V) (fun h2 => ⟨fun z => ?_, fun z => ok_layS (by omega) hS V c fun q1 k1 L1 => ?_⟩) fun h2 => ?_) fun h1 => ?_)
  · have e : cdWeight σ a b = 2 := by rw [cdWeight, if_pos ⟨h1, h2⟩, if_pos z]
    rw [e] at hq
    exact hq.2 (by decide) h (Kp.rf hS)
  · have e : cdWeight σ a b = 0 := by rw [cdWeight, if_pos ⟨h1, h2⟩, if_neg z]
    rw [e] at hq
    obtain ⟨i, hi, em⟩ := isN_t (by omega) h1
    obtain ⟨j, hj, eo⟩ := isN_t (by omega) h2
    have := hq.1 rfl q1 k1
    subst em eo
    rw [vWeight, nI_clamp (by omega), nI_clamp (by omega)] at this
    exact ok_weightOf (w := wS σ late) (SR_ok late) (by omega) k1.1 V L1.1 L1.2.1 L1.2.2.2.2.2 (by omega) (by omega) this
  · have e : cdWeight σ a b = 1 := by rw [cdWeight, if_neg (fun z => absurd z.2 (by rw [h2]; decide))]
    rw [e] at hq
    exact hq.2 (by decide) h (Kp.rf hS)
  · have e : cdWeight σ a b = 1 := by rw [cdWeight, if_neg (fun z => absurd z.1 (by rw [h1]; decide))]
    rw [e] at hq
    exact hq.2 (by decide) h (Kp.rf hS)
theorem ok_weightM {F : Int32 → Hp → Prop} (hd : 6 ≤ d) (hS : Std h.2.2) (V : VS σ) (mc : MC σ h) (ak : h.1 91 36 = -1) (hq : MR h (cdWeight σ a b) (vWeight σ late a b) F) : OKi d mX12_weight [.ref 91, .int a, .int b, .int (bI late)] h F X := by
  have hM := V.m.2
  have kk : Kp scm h (hI h 91 0 0) := k0 (Kp.rf hS)
  refine enX12_weight _ _ _ hd hS (ok_isMarkM (by omega) kk.1 V (mc.km kk) ⟨fun z => ok_failsM (n := 1) (by omega) kk (by rw [cdWeight, if_neg (fun y => absurd y.1 (by rw [bI_0.mp z]; decide))]) (by decide) hq, fun z => ok_isMarkM (by omega) kk.1 V (mc.km kk) ⟨fun z2 => ok_failsM (n := 1) (by omega) kk (by rw [cdWeight, if_neg (fun y => absurd y.2 (by rw [bI_0.mp z2]; decide))]) (by decide) hq, fun z2 => ⟨fun z3 => ok_failsM (n := 2) (by omega) kk (by rw [cdWeight, if_pos ⟨bI_n0.mp z, bI_n0.mp z2⟩, if_pos z3]) (by decide) hq, fun z3 => ?_⟩⟩⟩)
  have h1 := bI_n0.mp z
  have h2 := bI_n0.mp z2
  have e : cdWeight σ a b = 0 := by rw [cdWeight, if_pos ⟨h1, h2⟩, if_neg z3]
  rw [e] at hq
  obtain ⟨i, hi, em⟩ := isN_t (by omega) h1
  obtain ⟨j, hj, eo⟩ := isN_t (by omega) h2
  subst em eo
  refine ok_layStates (w := wS σ late) (by omega) kk.1 V (mc.km kk) (asked_no (by rw [hI_j (by decide)]; exact ak)) fun q1 f1 ms1 _ => ?_
  have k1 := kk.tr (f1.km kk.1)
  refine ok_weighs (by omega) k1.1 V (mc.km k1) ms1 (by omega) (by omega) (hq q1 _ k1 (by rw [f1.i 91 0, hI_k]; rfl) fun _ => ?_)
  rw [vWeight, nI_clamp (by omega), nI_clamp (by omega)]
end OPSC
