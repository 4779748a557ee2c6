/-! the class lays -/
section LAID
variable {σ h : Hp} {d S : Nat} {X : String → Hp → Prop} {w : Nat → Nat → Int32}
theorem hR_kk {g : Hp} {c k : Nat} {v : Option Nat} : (hR g c k v).2.2.1 c k = v := by
  show up2 g.2.2.1 c k v c k = v
  exact up2_kk
def TR (σ : Hp) (w : Nat → Nat → Int32) (par : Nat → Int32) (m v : Nat) (g : Hp) : Prop :=
  (∀ o, o < 4 → g.1 42 (16 * m + 4 * v + o) = nI (cnt σ w par true m o v) ∧ g.1 42 (256 + (16 * m + 4 * v) + o) = nI (cnt σ w par false m o v)) ∧ ∀ o, o < 3 → g.1 43 (16 * m + 4 * v + o) = vlu σ w par m o v
def RD (σ : Hp) (w : Nat → Nat → Int32) (par : Nat → Int32) (g : Hp) : Prop := ∀ m v, m < 16 → v < 4 → g.1 44 (4 * m + v) = 0 ∨ (g.1 44 (4 * m + v) = 1 ∧ TR σ w par m v g)
/-- what a lay leaves in the class's likeness -/
def LK (σ : Hp) (w : Nat → Nat → Int32) (S : Nat) (g : Hp) : Prop :=
  g.2.2.1 34 2 = some S ∧ (∀ k, hb (g.2.1 34 3) k = ctd σ k) ∧ (∀ k, k < nD σ → ∀ b, hb (g.2.1 35 k) b = prb σ true k b ∧ hb (g.2.1 36 k) b = prb σ false k b) ∧
  (∀ m, m < nM σ → g.1 37 m = prT σ w m) ∧ RD σ w (prT σ w) g ∧ Shw w S g
theorem CD.fr {g : Hp} {L : List Nat} {fs : List (Nat × Nat)} (c : CD σ h) (fr : Fr L fs h g) (hL : ∀ x ∈ L, x < 8 ∨ 17 < x := by decide) (hf : ∀ p ∈ fs, p.1 < 8 ∨ 17 < p.1 := by decide) : CD σ g := by
  have no : ∀ x k, 8 ≤ x → x ≤ 17 → inW L fs x k = false := fun x k h1 h2 => by
    simp only [inW, Bool.or_eq_false_iff, List.contains_eq_mem, decide_eq_false_iff_not]
    refine ⟨fun z => ?_, fun z => ?_⟩
    · have := hL x z; omega
    · have := hf _ z; simp only at this; omega
  refine ⟨by rw [fr.i 8 1 (no _ _ (by decide) (by decide))]; exact c.1, fun k hk => ?_, fun k hk => ?_, fun k hk b => ?_, fun b => ?_, fun b => ?_, fun b => ?_, fun a ha b => ?_, fun a ha b => ?_, ?_, ?_⟩
  · rw [fr.i 9 k (no _ _ (by decide) (by decide)), fr.i 10 k (no _ _ (by decide) (by decide)), fr.i 11 k (no _ _ (by decide) (by decide)), fr.i 12 k (no _ _ (by decide) (by decide))]; exact c.de hk
  · rw [fr.i 13 k (no _ _ (by decide) (by decide)), fr.i 14 k (no _ _ (by decide) (by decide))]; exact c.hand hk
  · rw [fr.l 17 k (no _ _ (by decide) (by decide))]; exact c.of hk b
  · rw [fr.l 8 11 (no _ _ (by decide) (by decide))]; exact c.sol b
  · rw [fr.l 8 12 (no _ _ (by decide) (by decide))]; exact c.dbt b
  · rw [fr.l 8 13 (no _ _ (by decide) (by decide))]; exact c.gone b
  · rw [fr.l 15 a (no _ _ (by decide) (by decide))]; exact c.apart ha b
  · rw [fr.l 16 a (no _ _ (by decide) (by decide))]; exact c.bar ha b
  · rw [fr.i 8 14 (no _ _ (by decide) (by decide))]; exact c.win.1
  · rw [fr.i 8 15 (no _ _ (by decide) (by decide))]; exact c.win.2
theorem Shw.fw {g : Hp} {L : List Nat} {fs : List (Nat × Nat)} (s : Shw w S h) (sh : ShOK S) (fr : Fr L fs h g) (hL : ∀ x ∈ L, x < 22 ∨ 33 < x := by decide) (hf : ∀ p ∈ fs, p.1 < 22 ∨ 33 < p.1 := by decide) : Shw w S g := by
  have no : ∀ x k, 22 ≤ x → x ≤ 33 → inW L fs x k = false := fun x k h1 h2 => by
    simp only [inW, Bool.or_eq_false_iff, List.contains_eq_mem, decide_eq_false_iff_not]
    refine ⟨fun z => ?_, fun z => ?_⟩
    · have := hL x z; omega
    · have := hf _ z; simp only at this; omega
  refine shw_fr s fr fun k => ?_
  have := sh.2.2.2.2
  exact ⟨no _ _ (by omega) (by omega), no _ _ (by omega) (by omega), no _ _ (by omega) (by omega)⟩
theorem lp_lay107 {F : Hp → Prop} (sh : ShOK S) (hd : 3 ≤ d) (hS : Std h.2.2)
    (nx : ∀ g, Fr [44] [] h g → (∀ k, k < 64 → g.1 44 k = 0) → OKv d mX3_weighAll [.ref 34] g (fun h3 => OKv d mX3_tieAll [.ref 34] h3 (fun h7 => OKv d mX3_hangAll [.ref 34] h7 (fun h11 => F h11) X) X) X) :
    ∀ (n i : Nat) (g : Hp), i + n = 64 → Fr [44] [] h g → (∀ k, k < i → g.1 44 k = 0) → E mX3_lay d 0 0 107 [(0, .ref 34), (2, .int (nI i))] [] g (Qv F) X := by
  intro n
  induction n with
  | zero =>
    intro i g e fr I
    have : i = 64 := by omega
    subst this
    exact sgX3_lay_107 sh _ hd (fr.sd hS) ⟨fun _ => nx g fr I, fun z => absurd (nI_le (Nat.le_refl 64) (by omega)) z⟩
  | succ n ih =>
    intro i g e fr I
    refine sgX3_lay_107 sh _ hd (fr.sd hS) ⟨fun z => absurd z (nI_ge (a := i) (b := 64) (by omega) (by omega)), fun _ => ⟨vin (by omega), ?_⟩⟩
    rw [nI_1, nI_clamp (by omega)]
    refine ih (i + 1) _ (by omega) (Fr.tr fr Fr.pI) fun k hk => ?_
    rw [hI_if]
    by_cases hki : k = i
    · rw [if_pos hki]
    · rw [if_neg hki]; exact I k (by omega)
theorem ok_layC {F : Hp → Prop} (sh : ShOK S) (hd : 4 ≤ d) (hS : Std h.2.2) (V : VS σ) (c : CD σ h) (hm : h.1 1 5 = nI (nM σ)) (s : Shw w S h)
    (hq : ∀ g, Fr [35, 36, 37, 38, 39, 40, 41, 44] [(34, 3)] (hR h 34 2 (some S)) g → LK σ w S g → F g) : OKv d mX3_lay [.ref 34, .ref S] h F X := by
  have hS1 : Std (hR h 34 2 (some S)).2.2 := std_R hS
  refine enX3_lay sh hd hS (ok_counting (Nat.le_refl _) hS1 V c fun r hr => ?_)
  have fr0 : Fr [] [(34, 3)] (hR h 34 2 (some S)) (hL (hR h 34 2 (some S)) 34 3 r) := Fr.pL
  have hc0 : ∀ k, hb ((hL (hR h 34 2 (some S)) 34 3 r).2.1 34 3) k = ctd σ k := fun k => by rw [hL_k]; exact hr k
  have c0 : CD σ (hL (hR h 34 2 (some S)) 34 3 r) := CD.fr (h := hR h 34 2 (some S)) c fr0
  refine lp_lay18 sh (Nat.le_refl _) (fr0.sd hS1) V c0 hc0 (fun g1 I1 => ?_) (nD σ) 0 _ (by omega) ⟨Fr.rf, fun k hk => absurd hk (Nat.not_lt_zero _)⟩
  have fr1 : Fr [35, 36] [(34, 3)] (hR h 34 2 (some S)) g1 := Fr.tr (Fr.mono fr0) (Fr.mono I1.1)
  refine lp_lay107 sh (Nat.le_refl _) (fr1.sd hS1) (fun g2 fr2 z2 => ?_) 64 0 g1 (by omega) Fr.rf fun k hk => absurd hk (Nat.not_lt_zero _)
  have fr12 : Fr [35, 36, 44] [(34, 3)] (hR h 34 2 (some S)) g2 := Fr.tr (Fr.mono fr1) (Fr.mono fr2)
  have hc2 : ∀ k, hb (g2.2.1 34 3) k = ctd σ k := fun k => by rw [fr2.l 34 3, I1.1.l 34 3]; exact hc0 k
  have hm2 : g2.1 1 5 = nI (nM σ) := by rw [fr12.i 1 5]; exact hm
  have hs2 : g2.2.2.1 34 2 = some S := by rw [fr12.1]; exact hR_kk
  refine ok_weighAll (w := w) sh (Nat.le_refl _) (fr12.sd hS1) V hm2 hs2 hc2 (Shw.fw (h := hR h 34 2 (some S)) s sh fr12) fun g3 I3 => ?_
  have s3 := I3.1.sd (fr12.sd hS1)
  refine ok_tieAll (w := w) (by omega) s3 V (by rw [I3.1.i 1 5, hm2]) (fun a b h1 h2 => I3.2.2 a b h1 h2 (by omega)) (fun k hk => ⟨(I3.2.1 k hk).1, (I3.2.1 k hk).2.1⟩) fun g4 fr4 T4 => ?_
  refine ok_hangAll (by omega) (fr4.sd s3) V (by rw [fr4.i 1 5, I3.1.i 1 5, hm2]) (frs_J V) T4.2 (fun m hm' => by rw [fr4.i 37 m]; exact (I3.2.1 m hm').2.2) fun g5 fr5 p5 => ?_
  have frA : Fr [37, 38, 39, 40, 41] [] g2 g5 := Fr.tr (Fr.mono I3.1) (Fr.tr (Fr.mono fr4) (Fr.mono fr5))
  have frB : Fr [35, 36, 37, 38, 39, 40, 41, 44] [(34, 3)] (hR h 34 2 (some S)) g5 := Fr.tr (Fr.mono fr12) (Fr.mono frA)
  refine hq g5 frB ⟨by rw [frB.1]; exact hR_kk, fun k => by rw [frA.l 34 3]; exact hc2 k, fun k hk b => ?_, p5, fun m v hm' hv => Or.inl ?_, Shw.fw (h := hR h 34 2 (some S)) s sh frB⟩
  · rw [frA.l 35 k, frA.l 36 k, fr2.l 35 k, fr2.l 36 k]; exact I1.2 k hk b
  · rw [frA.i 44]; exact z2 _ (by omega)
end LAID
