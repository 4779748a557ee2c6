/-! worths of a mark, by the class -/
section WORTHS
variable {σ h : Hp} {d S : Nat} {X : String → Hp → Prop} {w : Nat → Nat → Int32}
theorem ok_worthOfC {F : Int32 → Hp → Prop} {par : Nat → Int32} {m o v : Nat} (hd : 2 ≤ d) (hS : Std h.2.2) (V : VS σ) (hm : m < 16) (ho : o < 3) (hv : v < 4)
    (ht : ∀ o, o < 4 → h.1 42 (16 * m + 4 * v + o) = nI (cnt σ w par true m o v) ∧ h.1 42 (256 + (16 * m + 4 * v) + o) = nI (cnt σ w par false m o v)) (hq : F (vlu σ w par m o v) h) : OKi d mX3_worthOf [.ref 34, .int (nI (16 * m + 4 * v)), .int (nI (16 * m + 4 * v + o))] h F X := by
  have c1 := cnt_lt (w := w) (par := par) V true m o v
  have c2 := cnt_lt (w := w) (par := par) V true m 3 v
  have c3 := cnt_lt (w := w) (par := par) V false m o v
  have c4 := cnt_lt (w := w) (par := par) V false m 3 v
  refine enX3_worthOf _ _ hd hS ⟨vin (by omega), ?_⟩
  rw [nI_clamp (by omega), (ht o (by omega)).1, nI_1]
  refine ok_logOf (Nat.le_refl _) hS (by omega) (by omega) ?_
  rw [lit_nI 3, nI_add, nI_clamp (by omega), (ht 3 (by omega)).1, nI_add]
  refine ⟨vin (by omega), ok_logOf (Nat.le_refl _) hS (by omega) (by omega) ?_⟩
  rw [lit_nI 256, nI_add, nI_clamp (by omega), ← Nat.add_assoc 256, (ht o (by omega)).2, nI_1]
  refine ⟨vin (by omega), ok_logOf (Nat.le_refl _) hS (by omega) (by omega) ?_⟩
  rw [nI_add, nI_add, nI_clamp (by omega), (ht 3 (by omega)).2, nI_add]
  exact ⟨vin (by omega), ok_logOf (Nat.le_refl _) hS (by omega) (by omega) hq⟩
theorem lp_tally208 {F : Hp → Prop} {par : Nat → Int32} {m v : Nat} (sh : ShOK S) (hd : 2 ≤ d) (hS : Std h.2.2) (V : VS σ) (hm : m < 16) (hv : v < 4)
    (ht : ∀ o, o < 4 → h.1 42 (16 * m + 4 * v + o) = nI (cnt σ w par true m o v) ∧ h.1 42 (256 + (16 * m + 4 * v) + o) = nI (cnt σ w par false m o v))
    (hq : ∀ g, Fr [43] [] h g → (∀ o, o < 3 → g.1 43 (16 * m + 4 * v + o) = vlu σ w par m o v) → (∀ k, ¬ (16 * m + 4 * v ≤ k ∧ k < 16 * m + 4 * v + 3) → g.1 43 k = h.1 43 k) → F g) :
    ∀ (n i : Nat) (g : Hp), i + n = 3 → Fr [43] [] h g → (∀ o, o < i → g.1 43 (16 * m + 4 * v + o) = vlu σ w par m o v) → (∀ k, ¬ (16 * m + 4 * v ≤ k ∧ k < 16 * m + 4 * v + 3) → g.1 43 k = h.1 43 k) →
    E mX3_tallyWith d 0 0 208 [(0, .ref 34), (3, .int (nI (16 * m + 4 * v))), (6, .int (nI i))] [] g (Qv F) X := by
  intro n
  induction n with
  | zero =>
    intro i g e fr I J
    have : i = 3 := by omega
    subst this
    exact sgX3_tallyWith_208 sh _ _ hd (fr.sd hS) ⟨fun _ => hq g fr I J, fun z => absurd (nI_le (Nat.le_refl 3) (by omega)) z⟩
  | succ n ih =>
    intro i g e fr I J
    have hS' := fr.sd hS
    refine sgX3_tallyWith_208 sh _ _ hd hS' ⟨fun z => absurd z (nI_ge (a := i) (b := 3) (by omega) (by omega)), fun _ => ?_⟩
    rw [nI_add]
    refine ok_worthOfC (w := w) (par := par) (by omega) hS' V hm (by omega) hv (fun o ho => by rw [fr.i 42, fr.i 42]; exact ht o ho) ?_
    rw [nI_1, nI_clamp (by omega)]
    refine ⟨vin (by omega), ih (i + 1) _ (by omega) (Fr.tr fr Fr.pI) (fun o ho => ?_) fun k hk => ?_⟩
    · rw [hI_if]
      by_cases q : o = i
      · rw [if_pos (by omega), q]
      · rw [if_neg (by omega)]; exact I o (by omega)
    · rw [hI_if, if_neg (by omega)]; exact J k hk
theorem lp_tally37 {F : Hp → Prop} {m v : Nat} {par : Nat → Int32} (sh : ShOK S) (hd : 2 ≤ d) (hS : Std h.2.2) (hm : m < 16) (hv : v < 4)
    (nx : ∀ g, TI σ w par m v 0 h g → (g.2.2.1 34 2 = some S ∧ (vp_in (nI m) 16 ∧ E mX3_tallyWith d 0 0 92 [(0, .ref 34), (1, .int (nI m)), (2, .int (nI v)), (3, .int (nI (16 * m + 4 * v))), (4, .long ((g.2.1 34 3) &&& (g.2.1 (S + 1) (nI m).toNatClampNeg))), (6, .int 0)] [] g (Qv F) X))) :
    ∀ (n i : Nat) (g : Hp), i + n = 4 → Fr [42] [] h g → (∀ o, o < i → g.1 42 (16 * m + 4 * v + o) = 0 ∧ g.1 42 (256 + (16 * m + 4 * v) + o) = 0) → (∀ k, ¬ (16 * m + 4 * v ≤ k ∧ k < 16 * m + 4 * v + 4) → ¬ (256 + (16 * m + 4 * v) ≤ k ∧ k < 256 + (16 * m + 4 * v) + 4) → g.1 42 k = h.1 42 k) →
    E mX3_tallyWith d 0 0 37 [(0, .ref 34), (1, .int (nI m)), (2, .int (nI v)), (3, .int (nI (16 * m + 4 * v))), (4, .int (nI i))] [] g (Qv F) X := by
  intro n
  induction n with
  | zero =>
    intro i g e fr I J
    have : i = 4 := by omega
    subst this
    exact sgX3_tallyWith_37 sh _ _ _ _ hd (fr.sd hS) ⟨fun _ => nx g ⟨fr, I, J⟩, fun z => absurd (nI_le (Nat.le_refl 4) (by omega)) z⟩
  | succ n ih =>
    intro i g e fr I J
    refine sgX3_tallyWith_37 sh _ _ _ _ hd (fr.sd hS) ⟨fun z => absurd z (nI_ge (a := i) (b := 4) (by omega) (by omega)), fun _ => ?_⟩
    rw [lit_nI 256, nI_add, nI_add, nI_add, nI_1, nI_clamp (by omega), nI_clamp (by omega)]
    refine ⟨vin (by omega), vin (by omega), ih (i + 1) _ (by omega) (Fr.tr fr (Fr.tr Fr.pI Fr.pI)) (fun o ho => ?_) fun k k1 k2 => ?_⟩
    · rw [hI_if, hI_if, hI_if, hI_if, if_neg (show ¬ 16 * m + 4 * v + o = 256 + (16 * m + 4 * v) + i by omega), if_neg (show ¬ 256 + (16 * m + 4 * v) + o = 16 * m + 4 * v + i by omega)]
      by_cases q : o = i
      · rw [if_pos (by omega), if_pos (by omega)]; exact ⟨rfl, rfl⟩
      · rw [if_neg (by omega), if_neg (by omega)]; exact I o (by omega)
    · rw [hI_if, hI_if, if_neg (by omega), if_neg (by omega)]; exact J k k1 k2
theorem LK.pr (V : VS σ) (L : LK σ w S h) : PR σ (prT σ w) h := fun m hm => ⟨L.2.2.2.1 m hm, prT_n V hm⟩
theorem ok_tallyWith {F : Hp → Prop} {m v : Nat} (sh : ShOK S) (hd : 3 ≤ d) (hS : Std h.2.2) (V : VS σ) (hn : h.1 8 1 = nI (nD σ)) (L : LK σ w S h) (hm : m < nM σ) (hv : v < 4) (h3 : prT σ w m = -1 → v = 3)
    (hq : ∀ g, Fr [42, 43, 44] [] h g → LK σ w S g → TR σ w (prT σ w) m v g → F g) : OKv d mX3_tallyWith [.ref 34, .int (nI m), .int (nI v)] h F X := by
  have hM := V.m.2
  have ei : nI m * (4 : Int32) + nI v = nI (4 * m + v) := by rw [lit_nI 4, pk_mul, nI_add, Nat.mul_comm]
  have et : nI m * (16 : Int32) + nI v * (4 : Int32) = nI (16 * m + 4 * v) := by rw [lit_nI 4, lit_nI 16, pk_mul, pk_mul, nI_add, Nat.mul_comm m, Nat.mul_comm v]
  refine enX3_tallyWith sh _ _ hd hS ?_
  rw [ei, et, nI_clamp (by omega)]
  refine ⟨vin (by omega), fun _ => ⟨vin (by omega), ?_⟩, fun z => ?_⟩
  · have f0 : Fr [44] [] h (hI h 44 (4 * m + v) 1) := Fr.pI
    have S0 := f0.sd hS
    refine lp_tally37 (h := hI h 44 (4 * m + v) 1) (σ := σ) (w := w) (par := prT σ w) sh (Nat.le_refl _) S0 (by omega) hv (fun g1 I1 => ?_) 4 0 _ (by omega) Fr.rf (fun o ho => absurd ho (Nat.not_lt_zero _)) fun _ _ _ => rfl
    have f1 : Fr [42, 44] [] h g1 := Fr.tr (Fr.mono f0) (Fr.mono I1.1)
    have s1 : Shw w S g1 := L.2.2.2.2.2.fw sh f1
    refine ⟨by rw [f1.1]; exact L.1, vin (by omega), ?_⟩
    rw [nI_clamp (by omega)]
    refine lp_tally92 (h := g1) (σ := σ) (w := w) (par := prT σ w) sh (Nat.le_refl _) (f1.sd hS) V (by rw [f1.i 8 1, hn]) (fun k hk => by rw [f1.i 37 k]; exact L.pr V k hk) s1 (by rw [f1.1]; exact L.1) (fun k hk b => by rw [f1.l 35 k, f1.l 36 k]; exact L.2.2.1 k hk b) hm hv h3 (fun k => ?_) (fun g2 I2 => ?_) (nD σ) 0 g1 (by omega) ⟨Fr.rf, fun o ho => I1.2.1 o ho, fun _ _ _ => rfl⟩
    · rw [hb_and, f1.l 34 3, L.2.1 k]
      have := (s1 m (by omega) k).1
      simp only at this
      rw [this]
    · have f2 : Fr [42, 44] [] h g2 := Fr.tr f1 (Fr.mono I2.1)
      refine lp_tally208 (h := g2) (σ := σ) (w := w) (par := prT σ w) sh (Nat.le_refl _) (f2.sd hS) V (by omega) hv (fun o ho => I2.2.1 o ho) (fun g3 fr3 w3 j3 => ?_) 3 0 g2 (by omega) Fr.rf (fun o ho => absurd ho (Nat.not_lt_zero _)) fun _ _ => rfl
      have f3 : Fr [42, 43, 44] [] h g3 := Fr.tr (Fr.mono f2) (Fr.mono fr3)
      have T : TR σ w (prT σ w) m v g3 := ⟨fun o ho => by rw [fr3.i 42, fr3.i 42]; exact I2.2.1 o ho, w3⟩
      refine hq g3 f3 ⟨by rw [f3.1]; exact L.1, fun k => by rw [f3.l 34 3]; exact L.2.1 k, fun k hk b => by rw [f3.l 35 k, f3.l 36 k]; exact L.2.2.1 k hk b, fun k hk => by rw [f3.i 37 k]; exact L.2.2.2.1 k hk, fun m' v' hm' hv' => ?_, L.2.2.2.2.2.fw sh f3⟩ T
      have e44 : ∀ k, g3.1 44 k = if k = 4 * m + v then 1 else h.1 44 k := fun k => by rw [fr3.i 44, I2.1.i 44, I1.1.i 44, hI_if]
      by_cases q : m' = m ∧ v' = v
      · obtain ⟨rfl, rfl⟩ := q
        exact Or.inr ⟨by rw [e44, if_pos rfl], T⟩
      · have e42 : ∀ o, o < 4 → g3.1 42 (16 * m' + 4 * v' + o) = h.1 42 (16 * m' + 4 * v' + o) ∧ g3.1 42 (256 + (16 * m' + 4 * v') + o) = h.1 42 (256 + (16 * m' + 4 * v') + o) := fun o ho => by
          rw [fr3.i 42, fr3.i 42, I2.2.2 _ (by omega) (by omega), I2.2.2 _ (by omega) (by omega), I1.2.2 _ (by omega) (by omega), I1.2.2 _ (by omega) (by omega), f0.i 42, f0.i 42]
          exact ⟨rfl, rfl⟩
        rw [e44, if_neg (by omega)]
        obtain z | ⟨z, z2⟩ := L.2.2.2.2.1 m' v' hm' hv'
        · exact Or.inl z
        · refine Or.inr ⟨z, fun o ho => ?_, fun o ho => ?_⟩
          · rw [(e42 o ho).1, (e42 o ho).2]; exact z2.1 o ho
          · rw [j3 _ (by omega), I2.1.i 43, I1.1.i 43, f0.i 43]; exact z2.2 o ho
  · obtain z2 | ⟨z2, z3⟩ := L.2.2.2.2.1 m v (by omega) hv
    · exact absurd z2 z
    · exact hq h Fr.rf L z3
theorem ok_tallied {F : Int32 → Hp → Prop} {m o : Nat} {q : Bool} (sh : ShOK S) (hd : 4 ≤ d) (hS : Std h.2.2) (V : VS σ) (hn : h.1 8 1 = nI (nD σ)) (L : LK σ w S h) (hm : m < nM σ) (ho : o < 4)
    (hq : ∀ g, Fr [42, 43, 44] [] h g → LK σ w S g → F (nI (cnt σ w (prT σ w) q m o 3)) g) : OKi d mX3_tallied [.ref 34, .int (nI m), .int (bI q), .int (nI o)] h F X := by
  have hM := V.m.2
  refine enX3_tallied _ _ _ hd hS (ok_tallyWith (v := 3) sh (Nat.le_refl _) hS V hn L hm (by omega) (fun _ => rfl) fun g fr L2 T => ?_)
  have e0 : (256 : Int32) + nI m * (16 : Int32) + (12 : Int32) + nI o = nI (256 + (16 * m + 4 * 3) + o) := by rw [lit_nI 256, lit_nI 16, lit_nI 12, pk_mul, nI_add, nI_add, nI_add, Nat.mul_comm m] <;> congr 1 <;> omega
  have e1 : (0 : Int32) + nI m * (16 : Int32) + (12 : Int32) + nI o = nI (16 * m + 4 * 3 + o) := by rw [lit_nI 0, lit_nI 16, lit_nI 12, pk_mul, nI_add, nI_add, nI_add, Nat.mul_comm m] <;> congr 1 <;> omega
  rw [e0, e1, nI_clamp (by omega), nI_clamp (by omega), (T.1 o ho).1, (T.1 o ho).2]
  cases q
  · exact ⟨fun _ => ⟨vin (by omega), hq g fr L2⟩, fun z => absurd rfl z⟩
  · exact ⟨fun z => absurd z (by decide), fun _ => ⟨vin (by omega), hq g fr L2⟩⟩
end WORTHS
