/-! the other adds -/
section ADDS
variable {σ h : Hp} {d : Nat} {X : String → Hp → Prop} {x y l : Int32} {F : Int32 → Hp → Prop}
theorem ok_addMark (hd : 1 ≤ d) (hS : Std h.2.2) (V : VS σ) (c : CL σ h) (h0 : nM σ = 16 → F (-1) h)
    (hF : nM σ < 16 → F (nI (nM σ)) (hI h 1 5 (nI (nM σ + 1)))) : OKi d mX2_addMark [.ref 1] h F X := by
  have hM := V.m.2
  have e : h.1 1 5 = nI (nM σ) := c.2.1.trans V.m.1
  refine enX2_addMark hd hS ⟨fun z => ?_, fun z => h0 ?_⟩
  · rw [e] at z
    have hl : nM σ < 16 := (nI_ltI (b := 16) (by omega) (by omega)).mp z
    rw [e, nI_1]
    exact hF hl
  · rw [e] at z
    by_cases hlt : nM σ < 16
    · exact absurd (nI_lt hlt (by omega)) z
    · omega
theorem ok_addHand (hd : 1 ≤ d) (hS : Std h.2.2) (V : VS σ) (c : CL σ h) (h0 : nH σ = 20 → F (-1) h)
    (hF : nH σ < 20 → F (nI (nH σ)) (hI (hI h 5 (nH σ) x) 1 6 (nI (nH σ + 1)))) : OKi d mX2_addHand [.ref 1, .int x] h F X := by
  have hM := V.h.2
  have e : h.1 1 6 = nI (nH σ) := c.2.2.1.trans V.h.1
  refine enX2_addHand x hd hS ⟨fun z => ?_, fun z => h0 ?_⟩
  · rw [e] at z
    have hl : nH σ < 20 := (nI_ltI (b := 20) (by omega) (by omega)).mp z
    rw [e, nI_1, nI_clamp (by omega)]
    exact ⟨vin hl, hF hl⟩
  · rw [e] at z
    by_cases hlt : nH σ < 20
    · exact absurd (nI_lt hlt (by omega)) z
    · omega
theorem ok_addOfficer (hd : 1 ≤ d) (hS : Std h.2.2) (V : VS σ) (c : CL σ h) (h0 : nO σ = 10 → F (-1) h)
    (hF : nO σ < 10 → F (nI (nO σ)) (hI (hI (hI h 6 (nO σ) x) 7 (nO σ) y) 1 8 (nI (nO σ + 1)))) : OKi d mX2_addOfficer [.ref 1, .int x, .int y] h F X := by
  have hM := V.o.2
  have e : h.1 1 8 = nI (nO σ) := c.2.2.2.1.trans V.o.1
  refine enX2_addOfficer x y hd hS ⟨fun z => ?_, fun z => h0 ?_⟩
  · rw [e] at z
    have hl : nO σ < 10 := (nI_ltI (b := 10) (by omega) (by omega)).mp z
    rw [e, nI_1, nI_clamp (by omega)]
    exact ⟨vin hl, vin hl, hF hl⟩
  · rw [e] at z
    by_cases hlt : nO σ < 10
    · exact absurd (nI_lt hlt (by omega)) z
    · omega
def stLink (σ : Hp) (x y l : Int32) : Hp := hI (hI (hI (hI σ 109 (nL σ) x) 110 (nL σ) y) 111 (nL σ) l) 91 7 (nI (nL σ + 1))
theorem stLink_fr : Fr [109, 110, 111] [(91, 7)] σ (stLink σ x y l) := Fr.tr (Fr.tr (Fr.tr Fr.pI Fr.pI) Fr.pI) Fr.pI
theorem stLink_n (h : nL σ < 40) : nL (stLink σ x y l) = nL σ + 1 := by
  have : (stLink σ x y l).1 91 7 = nI (nL σ + 1) := hI_k
  rw [nL, this, nI_clamp (by omega)]
theorem ok_addLink (hd : 1 ≤ d) (hS : Std h.2.2) (V : VS σ) (c : CK σ h) (h0 : nL σ = 40 → F (-1) h)
    (hF : nL σ < 40 → ∀ g, Fr [19, 20, 21] [(18, 0)] h g → CK (stLink σ x y l) g → F (nI (nL σ + 1)) g) : OKi d mX4_add [.ref 18, .int x, .int y, .int l] h F X := by
  have hP := V.l.2
  refine enX4_add x y l hd hS ⟨fun z => ?_, fun z => h0 ?_⟩
  · rw [c.1] at z
    have h30 : nL σ < 40 := (nI_ltI (b := 40) (by omega) (by omega)).mp z
    rw [c.1, nI_clamp (by omega), nI_1]
    refine ⟨vin h30, vin h30, vin h30, hF h30 _ (Fr.tr (Fr.tr (Fr.tr Fr.pI Fr.pI) Fr.pI) Fr.pI) ⟨?_, fun p hp => ?_⟩⟩
    · rw [hI_k, stLink_n h30]
    · rw [stLink_n h30] at hp
      refine ⟨?_, ?_, ?_⟩
      · rw [hI_c (show (19 : Nat) ≠ 18 by decide), tri1 (by decide) (by decide), stLink, hI_c (show (109 : Nat) ≠ 91 by decide), tri1 (by decide) (by decide)]
        by_cases hpn : p = nL σ
        · rw [if_pos hpn, if_pos hpn]
        · rw [if_neg hpn, if_neg hpn]; exact (c.2 p (by omega)).1
      · rw [hI_c (show (20 : Nat) ≠ 18 by decide), tri2 (by decide) (by decide), stLink, hI_c (show (110 : Nat) ≠ 91 by decide), tri2 (by decide) (by decide)]
        by_cases hpn : p = nL σ
        · rw [if_pos hpn, if_pos hpn]
        · rw [if_neg hpn, if_neg hpn]; exact (c.2 p (by omega)).2.1
      · rw [hI_c (show (21 : Nat) ≠ 18 by decide), tri3 (by decide) (by decide), stLink, hI_c (show (111 : Nat) ≠ 91 by decide), tri3 (by decide) (by decide)]
        by_cases hpn : p = nL σ
        · rw [if_pos hpn, if_pos hpn]
        · rw [if_neg hpn, if_neg hpn]; exact (c.2 p (by omega)).2.2
  · rw [c.1] at z
    by_cases hlt : nL σ < 40
    · exact absurd (nI_lt hlt (by omega)) z
    · omega
end ADDS
