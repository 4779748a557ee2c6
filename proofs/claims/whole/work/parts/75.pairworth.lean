/-! worth of two deeds, by class and reference -/
section PAIRWORTH
variable {σ h : Hp} {d S U : Nat} {X : String → Hp → Prop} {w u : Nat → Nat → Int32} {par : Nat → Int32}
/-- what a mark says of two deeds, seen so -/
def mwv (σ : Hp) (w : Nat → Nat → Int32) (par : Nat → Int32) (u : Nat → Nat → Int32) (m a b : Nat) : Int32 := if on u m a b = 3 then 0 else vlu σ w par m (on u m a b) (vn u par m a b)
def pwn (σ : Hp) (w : Nat → Nat → Int32) (par : Nat → Int32) (u : Nat → Nat → Int32) (a b : Nat) : Nat → Int32
  | 0 => 0
  | n + 1 => pwn σ w par u a b n + mwv σ w par u n a b
def pwv (σ : Hp) (w u : Nat → Nat → Int32) (a b : Nat) : Int32 := pwn σ w (prT σ w) u a b (nM σ)
theorem ok_markWorth {F : Int32 → Hp → Prop} {m a b : Nat} (sh : ShOK S) (shU : ShOK U) (hd : 4 ≤ d) (hS : Std h.2.2) (V : VS σ) (hn : h.1 8 1 = nI (nD σ)) (L : LK σ w S h) (su : Shw u U h) (hu : ∀ k j, S03 (u k j)) (hm : m < nM σ) (ha : a < 60) (hbb : b < 60)
    (hq : ∀ g, Fr [42, 43, 44] [] h g → LK σ w S g → F (mwv σ w (prT σ w) u m a b) g) : OKi d mX3_markWorth [.ref 34, .ref U, .int (nI a), .int (nI b), .int (nI m)] h F X := by
  have hM := V.m.2
  refine enX3_markWorth shU _ _ _ hd hS (ok_outcomeOf shU (by omega) hS su ha hbb (by omega) (hu _ _) (hu _ _) ?_)
  obtain ⟨o1, o2⟩ := on_n u m a b
  have e3 : nI (on u m a b) = 3 ↔ on u m a b = 3 := nI_eq (b := 3) (by omega) (by omega)
  rw [o1, nI_clamp (by omega), L.2.2.2.1 m hm]
  refine ⟨fun z => ?_, fun z => ⟨vin (by omega), fun z2 => ?_, fun z2 => ?_⟩⟩
  · have := hq h Fr.rf L
    rw [mwv, if_pos (e3.mp z)] at this
    exact this
  · have on3 : on u m a b < 3 := by have : on u m a b ≠ 3 := fun q => z (e3.mpr q); omega
    have v3 : vn u (prT σ w) m a b = 3 := by rw [vn, ovr, if_pos z2]; rfl
    refine ok_tallyWith (v := 3) sh (by omega) hS V hn L hm (by omega) (fun _ => rfl) fun g fr L2 T => ?_
    have e : nI m * (16 : Int32) + (3 : Int32) * (4 : Int32) + nI (on u m a b) = nI (16 * m + 4 * 3 + on u m a b) := by
      have : (3 : Int32) * (4 : Int32) = nI (4 * 3) := rfl
      rw [this, lit_nI 16, pk_mul, nI_add, nI_add, Nat.mul_comm m]
    rw [e, nI_clamp (by omega), T.2 _ on3]
    have := hq g fr L2
    rw [mwv, if_neg (fun q => z (e3.mpr q)), v3] at this
    exact ⟨vin (by omega), this⟩
  · have on3 : on u m a b < 3 := by have : on u m a b ≠ 3 := fun q => z (e3.mpr q); omega
    obtain q | ⟨p, hp, q⟩ := prT_n (w := w) V hm
    · exact absurd q z2
    · have ev : ovr u (prT σ w) m a b = otc (u a p) (u b p) := by rw [ovr, if_neg z2, q, nI_clamp (by omega)]
      obtain ⟨v1, v2⟩ := vn_n u (prT σ w) m a b
      rw [q]
      refine ok_outcomeOf shU (by omega) hS su ha hbb (by omega) (hu _ _) (hu _ _) ?_
      rw [← ev, v1]
      refine ok_tallyWith (v := vn u (prT σ w) m a b) sh (by omega) hS V hn L hm (by omega) (fun z3 => absurd z3 z2) fun g fr L2 T => ?_
      have e : nI m * (16 : Int32) + nI (vn u (prT σ w) m a b) * (4 : Int32) + nI (on u m a b) = nI (16 * m + 4 * vn u (prT σ w) m a b + on u m a b) := by
        rw [lit_nI 16, lit_nI 4, pk_mul, pk_mul, nI_add, nI_add, Nat.mul_comm m, Nat.mul_comm _ 4]
      rw [e, nI_clamp (by omega), T.2 _ on3]
      have := hq g fr L2
      rw [mwv, if_neg (fun q => z (e3.mpr q))] at this
      exact ⟨vin (by omega), this⟩
theorem lp_pairWorth {F : Int32 → Hp → Prop} {a b : Nat} (sh : ShOK S) (shU : ShOK U) (hd : 4 ≤ d) (hS : Std h.2.2) (V : VS σ) (hn : h.1 8 1 = nI (nD σ)) (hm : h.1 1 5 = nI (nM σ)) (su : Shw u U h) (hu : ∀ k j, S03 (u k j)) (ha : a < 60) (hbb : b < 60)
    (hq : ∀ g, Fr [42, 43, 44] [] h g → LK σ w S g → F (pwv σ w u a b) g) : ∀ (n i : Nat) (g : Hp), i + n = nM σ → Fr [42, 43, 44] [] h g → LK σ w S g →
    E mX3_pairWorth d 0 0 6 [(0, .ref 34), (1, .ref U), (2, .int (nI a)), (3, .int (nI b)), (4, .int (pwn σ w (prT σ w) u a b i)), (5, .int (nI i))] [] g (Qi F) X := by
  have hM := V.m.2
  intro n
  induction n with
  | zero =>
    intro i g e fr L
    have : i = nM σ := by omega
    subst this
    exact sgX3_pairWorth_6 shU _ _ _ _ hd (fr.sd hS) ⟨fun _ => hq g fr L, fun z => absurd (by rw [fr.i 1 5, hm]; exact nI_le (Nat.le_refl _) (by omega)) z⟩
  | succ n ih =>
    intro i g e fr L
    have hi : i < nM σ := by omega
    refine sgX3_pairWorth_6 shU _ _ _ _ hd (fr.sd hS) ⟨fun z => absurd z (by rw [fr.i 1 5, hm]; exact nI_ge hi (by omega)), fun _ => ?_⟩
    refine ok_markWorth sh shU (by omega) (fr.sd hS) V (by rw [fr.i 8 1, hn]) L (su.fw shU fr) hu hi ha hbb fun g2 fr2 L2 => ?_
    rw [nI_1]
    exact ih (i + 1) g2 (by omega) (Fr.tr fr fr2) L2
theorem ok_pairWorth {F : Int32 → Hp → Prop} {a b : Nat} (sh : ShOK S) (shU : ShOK U) (hd : 5 ≤ d) (hS : Std h.2.2) (V : VS σ) (hn : h.1 8 1 = nI (nD σ)) (hm : h.1 1 5 = nI (nM σ)) (L : LK σ w S h) (su : Shw u U h) (hu : ∀ k j, S03 (u k j)) (ha : a < 60) (hbb : b < 60)
    (hq : ∀ g, Fr [42, 43, 44] [] h g → LK σ w S g → F (pwv σ w u a b) g) : OKi d mX3_pairWorth [.ref 34, .ref U, .int (nI a), .int (nI b)] h F X :=
  enX3_pairWorth shU _ _ hd hS (lp_pairWorth sh shU (Nat.le_refl _) hS V hn hm su hu ha hbb hq (nM σ) 0 h (by omega) Fr.rf L)
/-! the reference -/
theorem ok_worthBy {F : Int32 → Hp → Prop} {A B m a b : Nat} (hA : SHP A = .inl (.int, 960) ∧ A < 147) (hB : SHP B = .inl (.int, 960) ∧ B < 147) (hd : 3 ≤ d) (hS : Std h.2.2) (V : VS σ) (ps : PS σ par h) (vl : VL σ w par (nM σ) h)
    (ua : ∀ j, j < nM σ → h.1 A (16 * a + j) = u a j) (ub : ∀ j, j < nM σ → h.1 B (16 * b + j) = u b j) (hm : m < nM σ) (ha : a < 60) (hbb : b < 60)
    (hq : F (mwv σ w par u m a b) h) : OKi d mX12_worthBy [.ref 91, .int (nI m), .ref A, .int (nI a), .ref B, .int (nI b)] h F X := by
  have hM := V.m.2
  have ei : ∀ k j : Nat, (16 : Int32) * nI k + nI j = nI (16 * k + j) := fun k j => by rw [lit_nI 16, pk_mul, nI_add]
  obtain ⟨o1, o2⟩ := on_n u m a b
  have e3 : nI (on u m a b) = 3 ↔ on u m a b = 3 := nI_eq (b := 3) (by omega) (by omega)
  obtain ⟨p1, p2⟩ := ps m hm
  refine enX12_worthBy hA hB _ _ _ hd hS ?_
  rw [ei, ei, nI_clamp (by omega), nI_clamp (by omega), nI_clamp (by omega), ua m (by omega), ub m (by omega)]
  refine ⟨vin (by omega), vin (by omega), ok_outcomeM (by omega) hS ?_⟩
  rw [o1, p1]
  refine ⟨fun z => ?_, fun z => ⟨vin (by omega), fun z2 => ?_, fun z2 => ?_⟩⟩
  · rw [mwv, if_pos (e3.mp z)] at hq
    exact hq
  · have on3 : on u m a b < 3 := by have : on u m a b ≠ 3 := fun q => z (e3.mpr q); omega
    have v3 : vn u par m a b = 3 := by rw [vn, ovr, if_pos z2]; rfl
    have e : (12 : Int32) * nI m + (4 : Int32) * nI (on u m a b) + (3 : Int32) = nI (12 * m + 4 * on u m a b + 3) := by rw [lit_nI 12, lit_nI 4, lit_nI 3, pk_mul, pk_mul, nI_add, nI_add]
    rw [mwv, if_neg (fun q => z (e3.mpr q)), v3] at hq
    rw [e, nI_clamp (by omega), vl m _ 3 hm on3 (by omega)]
    exact ⟨vin (by omega), hq⟩
  · have on3 : on u m a b < 3 := by have : on u m a b ≠ 3 := fun q => z (e3.mpr q); omega
    obtain q | ⟨p, hp, q⟩ := p2
    · exact absurd q z2
    · have ev : ovr u par m a b = otc (u a p) (u b p) := by rw [ovr, if_neg z2, q, nI_clamp (by omega)]
      obtain ⟨v1, v2⟩ := vn_n u par m a b
      rw [q, ei, ei, nI_clamp (by omega), nI_clamp (by omega), ua p (by omega), ub p (by omega)]
      refine ⟨vin (by omega), vin (by omega), ok_outcomeM (by omega) hS ?_⟩
      rw [← ev, v1]
      have e : (12 : Int32) * nI m + (4 : Int32) * nI (on u m a b) + nI (vn u par m a b) = nI (12 * m + 4 * on u m a b + vn u par m a b) := by rw [lit_nI 12, lit_nI 4, pk_mul, pk_mul, nI_add, nI_add]
      rw [mwv, if_neg (fun q => z (e3.mpr q))] at hq
      rw [e, nI_clamp (by omega), vl m _ _ hm on3 (by omega)]
      exact ⟨vin (by omega), hq⟩
theorem lp_worthOf {F : Int32 → Hp → Prop} {A B a b : Nat} (hA : SHP A = .inl (.int, 960) ∧ A < 147) (hB : SHP B = .inl (.int, 960) ∧ B < 147) (hd : 3 ≤ d) (hS : Std h.2.2) (V : VS σ) (m : h.1 91 3 = nI (nM σ)) (ps : PS σ par h) (vl : VL σ w par (nM σ) h)
    (ua : ∀ j, j < nM σ → h.1 A (16 * a + j) = u a j) (ub : ∀ j, j < nM σ → h.1 B (16 * b + j) = u b j) (ha : a < 60) (hbb : b < 60)
    (hq : F (pwn σ w par u a b (nM σ)) h) : ∀ n i : Nat, i + n = nM σ →
    E mX12_worthOf d 0 0 6 [(0, .ref 91), (1, .ref A), (2, .int (nI a)), (3, .ref B), (4, .int (nI b)), (5, .int (pwn σ w par u a b i)), (6, .int (nI i))] [] h (Qi F) X := by
  have hM := V.m.2
  intro n
  induction n with
  | zero =>
    intro i e
    have : i = nM σ := by omega
    subst this
    exact sgX12_worthOf_6 hA hB _ _ _ _ hd hS ⟨fun _ => hq, fun z => absurd (by rw [m]; exact nI_le (Nat.le_refl _) (by omega)) z⟩
  | succ n ih =>
    intro i e
    have hi : i < nM σ := by omega
    refine sgX12_worthOf_6 hA hB _ _ _ _ hd hS ⟨fun z => absurd z (by rw [m]; exact nI_ge hi (by omega)), fun _ => ok_worthBy hA hB (by omega) hS V ps vl ua ub hi ha hbb ?_⟩
    rw [nI_1]
    exact ih (i + 1) (by omega)
theorem ok_worthOfX {F : Int32 → Hp → Prop} {A B a b : Nat} (hA : SHP A = .inl (.int, 960) ∧ A < 147) (hB : SHP B = .inl (.int, 960) ∧ B < 147) (hd : 4 ≤ d) (hS : Std h.2.2) (V : VS σ) (m : h.1 91 3 = nI (nM σ)) (ps : PS σ (prT σ w) h) (vl : VL σ w (prT σ w) (nM σ) h)
    (ua : ∀ j, j < nM σ → h.1 A (16 * a + j) = u a j) (ub : ∀ j, j < nM σ → h.1 B (16 * b + j) = u b j) (ha : a < 60) (hbb : b < 60)
    (hq : F (pwv σ w u a b) h) : OKi d mX12_worthOf [.ref 91, .ref A, .int (nI a), .ref B, .int (nI b)] h F X :=
  enX12_worthOf hA hB _ _ hd hS (lp_worthOf hA hB (Nat.le_refl _) hS V m ps vl ua ub ha hbb hq (nM σ) 0 (by omega))
theorem ok_worthOfM {F : Int32 → Hp → Prop} {a b : Nat} (hd : 5 ≤ d) (hS : Std h.2.2) (V : VS σ) (m : h.1 91 3 = nI (nM σ)) (R : RLaid σ w h) (ha : a < nD σ) (hbb : b < nD σ) (hq : F (pwv σ w w a b) h) : OKi d mX12_worthOf_ [.ref 91, .int (nI a), .int (nI b)] h F X := by
  have hD := V.d.2
  have hM := V.m.2
  exact enX12_worthOf_ _ _ hd hS (ok_worthOfX (u := w) ⟨sa_112, by decide⟩ ⟨sa_112, by decide⟩ (by omega) hS V m R.2.2.1 R.2.2.2.2 (fun j hj => R.1 a j ha (by omega)) (fun j hj => R.1 b j hbb (by omega)) (by omega) (by omega) hq)
end PAIRWORTH
