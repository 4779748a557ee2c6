/-! a text, as the law calls for it -/
section CASET
variable {σ h : Hp} {N : Hp → Prop}
set_option maxRecDepth 100000 in
theorem cs_42 {x1 : Int32} (cp : Cpl σ h) (hN : ∀ τ g, Cpl τ g → N g) : OKh 41 mL_text hhL_text [.ref 0, .int x1, .ref 146] h (fun (r1 : Int32) (h2 : Hp) => OKi 40 mX12_text [.ref 91, .int x1] h2 (fun (r5 : Int32) (h6 : Hp) => OKi 40 mX12_thrown [.ref 91] h6 (fun (r9 : Int32) (h10 : Hp) => ((r9 = r1 → ((r1 = 0 → (((h10.2.1 146 0) = r5.toInt64 → N h10) ∧ (¬ (h10.2.1 146 0) = r5.toInt64 → False))) ∧ (¬ r1 = 0 → N h10))) ∧ (¬ r9 = r1 → False))) NX) NX) := by
  obtain ⟨S, v0, cc, ma⟩ := cp
  have T := v0.2.2.2.2.1
  refine enL_text x1 S (ok_textC2 (by decide) S T cc.2.2.1 (fun e q p => ?_) fun e => ?_)
  · have k : KC h q := Fr.c p.1 S
    have m := (MA_w (cd := cdText σ x1) (x := (vText σ x1).toInt64) (g := q) ma k).1 e
    have v2 : VV (hL σ 146 0 (wOf σ (cdText σ x1) (vText σ x1).toInt64)) := v0.out
    have c2 : CC (hL σ 146 0 (wOf σ (cdText σ x1) (vText σ x1).toInt64)) h := cc.so
    have k1 : Std (hL q 146 0 (vText σ x1).toInt64).2.2 := k.1
    refine ok_textM2 (σ := hL σ 146 0 (wOf σ (cdText σ x1) (vText σ x1).toInt64)) (by decide) k1 v2.2.2.2.2.1 m (fun e2 q2 b => ?_) fun e1 => ?_
    · have fm := b.1
      have S2 : Std q2.2.2 := fm.sd k1
      have km : KM (hL q 146 0 (vText σ x1).toInt64) q2 := Fr.m fm k1
      have km2 : KM q q2 := ⟨S2, fun c j hc => ⟨(km.2 c j hc).1, (km.2 c j hc).2.trans (hL_c (by omega))⟩⟩
      have cp2 : Cpl (stText (hL σ 146 0 (wOf σ (cdText σ x1) (vText σ x1).toInt64)) q2) q2 := ⟨S2, VV_text v2 b.2.2.1, CC_text v2 c2 m e2 p b km2, MA_text m b.1⟩
      have n2 : N q2 := hN _ q2 cp2
      have x1' : q2.2.1 146 0 = (vText σ x1).toInt64 := (Fr.l fm 146 0).trans hL_k
      refine enX12_thrown (by decide) S2 ?_
      rw [b.2.1]
      exact ⟨fun _ => ⟨fun _ => ⟨fun _ => n2, fun z => z x1'⟩, fun z => absurd rfl z⟩, fun z => z rfl⟩
    · have e1 : cdText σ x1 = 1 := e1
      rw [e] at e1; cases e1
  · have e1 : cdText σ x1 = 1 := by
      rw [cdText] at e ⊢
      split at e
      · exact absurd rfl e
      · next z => rw [if_neg z]
    refine ⟨rfl, ok_textM2 (by decide) S T ma (fun e2 => absurd (e2.symm.trans e1) (by decide)) fun _ q km m2 e0 => ?_⟩
    have n2 : N q := hN σ q ⟨km.1, v0, cc.mm km, m2⟩
    refine enX12_thrown (by decide) km.1 ?_
    rw [e0]
    exact ⟨fun _ => ⟨fun z => absurd z (by decide), fun _ => n2⟩, fun z => z rfl⟩
end CASET
