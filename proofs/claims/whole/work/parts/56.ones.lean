/-! the pairs of a sheet, as sets -/
section ONES
variable {σ h : Hp} {d : Nat} {X : String → Hp → Prop}
/-- counted pairs of a deed with later ones -/
def prb (σ : Hp) (q : Bool) (k b : Nat) : Bool := ctd σ k && (ctd σ b && decide (k < b) && relOf σ q k b)
def LInv (σ h g : Hp) (i : Nat) : Prop := Fr [35, 36] [] h g ∧ ∀ k, k < i → ∀ b, hb (g.2.1 35 k) b = prb σ true k b ∧ hb (g.2.1 36 k) b = prb σ false k b
theorem prb_bits {i : Nat} {r x y : Int64} {q : Bool} (V : VS σ) (hi : ctd σ i = true) (hr : ∀ k, hb r k = (al σ k && relOf σ q i k && !decide (k = i))) (hx : ∀ k, hb x k = ctd σ k) (hy : ∀ k, hb y k = decide (i < k ∧ k < 64)) (b : Nat) : hb (r &&& (x &&& y)) b = prb σ q i b := by
  have hD := V.d.2
  rw [hb_and, hb_and, hr, hx, hy, prb, hi]
  cases hk : ctd σ b
  · simp
  · have h1 := ctd_le hk
    have h3 : b < 64 := by omega
    rw [h1.2.1]
    by_cases hik : i < b
    · have : ¬ b = i := by omega
      simp [hik, this, h3]
    · simp [hik]
theorem lp_lay18 {F : Hp → Prop} {S : Nat} (sh : ShOK S) (hd : 3 ≤ d) (hS : Std h.2.2) (V : VS σ) (c : CD σ h) (hc : ∀ k, hb (h.2.1 34 3) k = ctd σ k)
    (nx : ∀ g, LInv σ h g (nD σ) → E mX3_lay d 0 0 107 [(0, .ref 34), (2, .int 0)] [] g (Qv F) X) : ∀ (n i : Nat) (g : Hp), i + n = nD σ → LInv σ h g i →
    E mX3_lay d 0 0 18 [(0, .ref 34), (2, .int (nI i))] [] g (Qv F) X := by
  have hD := V.d.2
  have cdf : ∀ g, Fr [35, 36] [] h g → CD σ g := fun g fr => by
    refine ⟨by rw [fr.i 8 1]; exact c.1, fun k hk => ?_, fun k hk => ?_, fun k hk b => ?_, fun b => ?_, fun b => ?_, fun b => ?_, fun a ha b => ?_, fun a ha b => ?_, ?_, ?_⟩
    · rw [fr.i 9 k, fr.i 10 k, fr.i 11 k, fr.i 12 k]; exact c.de hk
    · rw [fr.i 13 k, fr.i 14 k]; exact c.hand hk
    · rw [fr.l 17 k]; exact c.of hk b
    · rw [fr.l 8 11]; exact c.sol b
    · rw [fr.l 8 12]; exact c.dbt b
    · rw [fr.l 8 13]; exact c.gone b
    · rw [fr.l 15 a]; exact c.apart ha b
    · rw [fr.l 16 a]; exact c.bar ha b
    · rw [fr.i 8 14]; exact c.win.1
    · rw [fr.i 8 15]; exact c.win.2
  intro n
  induction n with
  | zero =>
    intro i g e I
    have : i = nD σ := by omega
    subst this
    exact sgX3_lay_18 sh _ hd (I.1.sd hS) ⟨fun _ => nx g I, fun z => absurd (by rw [(cdf g I.1).n]; exact nI_le (Nat.le_refl _) (by omega)) z⟩
  | succ n ih =>
    intro i g e I
    have hi : i < nD σ := by omega
    have cg := cdf g I.1
    have hSg := I.1.sd hS
    have hcg : ∀ k, hb (g.2.1 34 3) k = ctd σ k := fun k => by rw [I.1.l 34 3]; exact hc k
    have step : ∀ x y : Int64, (∀ b, hb x b = prb σ true i b) → (∀ b, hb y b = prb σ false i b) → E mX3_lay d 0 0 18 [(0, .ref 34), (2, .int (nI i + 1))] [] (hL (hL g 35 i x) 36 i y) (Qv F) X := fun x y hx hy => by
      rw [nI_1]
      refine ih (i + 1) _ (by omega) ⟨Fr.tr (Fr.tr I.1 Fr.pL) Fr.pL, fun k hk b => ?_⟩
      by_cases hki : k = i
      · subst hki
        rw [hL_k, hL_c (by decide), hL_k]; exact ⟨hx b, hy b⟩
      · rw [hL_j hki, hL_c (c := 36) (by decide), hL_j hki, hL_c (by decide)]; exact I.2 k (by omega) b
    refine sgX3_lay_18 sh _ hd hSg ⟨fun z => absurd z (by rw [cg.n]; exact nI_ge hi (by omega)), fun _ => ok_has (by omega) hSg (by omega) (ok_above (by omega) hSg ?_)⟩
    rw [nI_clamp (by omega), hcg]
    cases hct : ctd σ i
    · have no : ∀ q b, hb 0 b = prb σ q i b := fun q b => by rw [hb_0, prb, hct]; rfl
      exact ⟨fun _ => ⟨vin (by omega), fun _ => ⟨vin (by omega), step 0 0 (no true) (no false)⟩, fun z => absurd rfl z⟩, fun z => absurd rfl z⟩
    · have hal := (ctd_le hct).2.1
      refine ⟨fun z => absurd z (by decide), fun _ => ok_oneWith (by omega) hSg V cg hi fun r1 h1 => ⟨vin (by omega), fun z => absurd z (by decide), fun _ => ?_⟩⟩
      have b1 := prb_bits (q := true) V hct (fun k => by rw [h1 k, hal, Bool.true_and]; rfl) hcg (hb_above (j := i) (by omega))
      refine ok_barredFrom hd (Fr.sd (Fr.pL (L := [35, 36]) (fs := [])) hSg) V (cdf _ (Fr.tr I.1 Fr.pL)) hal fun r2 h2 => ⟨vin (by omega), step _ _ b1 (prb_bits (q := false) V hct h2 hcg (hb_above (by omega)))⟩
end ONES
