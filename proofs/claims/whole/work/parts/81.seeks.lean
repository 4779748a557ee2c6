/-! best and near, by the reference -/
section SEEKS
variable {h : Hp} {d n : Nat} {X : String → Hp → Prop} {bad one : Nat → Nat → Bool} {g : Nat → Nat → Int32} {mb : Nat → Nat}
def RSM (n : Nat) (s : SB) (h : Hp) : Prop := h.1 91 50 = bI s.1 ∧ (s.1 = true → h.1 91 48 = s.2.1 ∧ ∀ k, k < n → h.1 122 k = nI (s.2.2 k))
theorem lp_best111 {F : Hp → Prop} {r : Nat → Nat} (hn : n ≤ 9) (hd : 5 ≤ d) (hS : Std h.2.2) (h1 : h.1 91 42 = nI n) (R : RWd n r h)
    (nx : ∀ q, Fr [122] [] h q → (∀ k, k < n → q.1 122 k = nI (r k)) → OKi d mX12_goesOn [.ref 91] q (fun (r2 : Int32) (h3 : Hp) => E mX12_seekBest d 0 0 67 [(0, .ref 91), (1, .int r2)] [] h3 (Qv F) X) X) :
    ∀ (m i : Nat) (q : Hp), i + m = n → Fr [122] [] h q → (∀ k, k < i → q.1 122 k = nI (r k)) → E mX12_seekBest d 0 0 111 [(0, .ref 91), (2, .int (nI i))] [] q (Qv F) X := by
  intro m
  induction m with
  | zero =>
    intro i q e fr I
    have : i = n := by omega
    subst this
    exact sgX12_seekBest_111 _ hd (fr.sd hS) ⟨fun _ => nx q fr I, fun z => absurd (by rw [fr.i 91 42, h1]; exact Int32.le_refl _) z⟩
  | succ m ih =>
    intro i q e fr I
    refine sgX12_seekBest_111 _ hd (fr.sd hS) ⟨fun z => absurd z (by rw [fr.i 91 42, h1]; exact nI_ge (by omega) (by omega)), fun _ => ⟨vin (by omega), vin (by omega), ?_⟩⟩
    rw [nI_1, nI_clamp (by omega), fr.i 121 i, R.1 i (by omega)]
    refine ih (i + 1) _ (by omega) (Fr.tr fr Fr.pI) fun k hk => ?_
    rw [hI_if]
    by_cases e2 : k = i
    · rw [if_pos e2, e2]
    · rw [if_neg e2]; exact I k (by omega)
theorem lp_best67 {F : Hp → Prop} (hn : n ≤ 9) (h1 : 1 ≤ n) (hd : 5 ≤ d) (hS : Std h.2.2) (M : MBd n mb bad one h) (W : WHd n g h) (R0 : RWd n (fun _ => 0) h) {s0 : SB} (rs0 : RSM n s0 h) (e0 : s0 = (false, 0, fun _ => 0))
    (hq : ∀ q, Fr [121, 122] [(91, 48), (91, 50), (91, 51)] h q → RSM n (best0 bad one g n) q → F q) : E mX12_seekBest d 0 0 67 [(0, .ref 91), (1, .int 1)] [] h (Qv F) X := by
  have key := odo (leaf := lfo bad one n (actB g n)) (n := n)
    (P := fun b r s => ∀ q, Fr [121, 122] [(91, 48), (91, 50), (91, 51)] h q → RWd n r q → RSM n s q → E mX12_seekBest d 0 0 67 [(0, .ref 91), (1, .int (bI b))] [] q (Qv F) X)
    (Top := fun r s => ∀ q, Fr [121, 122] [(91, 48), (91, 50), (91, 51)] h q → RWd n r q → RSM n s q → E mX12_seekBest d 0 0 67 [(0, .ref 91), (1, .int 1)] [] q (Qv F) X)
    (fun r s hP q fr R rs => ?_) (fun r s hT => hT) (n - 1) 1 (fun _ => 0) s0 (by omega) (Nat.le_refl _) (fun _ _ => rfl) (fun q fr R rs => ?_)
  · exact key h Fr.rf R0 rs0
  · have hS' := fr.sd hS
    refine sgX12_seekBest_67 _ hd hS' ⟨fun z => absurd z (by decide), fun _ => ok_isParting (by omega) hn hS' (M.fr fr) (W.fr fr) R fun q2 fr2 e51 => ?_⟩
    have hS2 := fr2.sd hS'
    have fr12 : Fr [121, 122] [(91, 48), (91, 50), (91, 51)] h q2 := Fr.tr fr (Fr.mono fr2)
    have rs2 : RSM n s q2 := ⟨by rw [fr2.i 91 50]; exact rs.1, fun t => ⟨by rw [fr2.i 91 48]; exact (rs.2 t).1, fun k hk => by rw [fr2.i 122 k]; exact (rs.2 t).2 k hk⟩⟩
    have R2 : RWd n r q2 := R.fr fr2
    have m42 : q2.1 91 42 = nI n := (M.fr fr12).1
    have again : lfo bad one n (actB g n) r s = s → OKi d mX12_goesOn [.ref 91] q2 (fun (r7 : Int32) (h8 : Hp) => E mX12_seekBest d 0 0 67 [(0, .ref 91), (1, .int r7)] [] h8 (Qv F) X) X := fun es => by
      refine ok_goesOn (by omega) hn h1 hS2 m42 R2 fun q3 fr3 R3 => ?_
      rw [es] at hP
      exact hP q3 (Fr.tr fr12 (Fr.mono fr3)) R3 ⟨by rw [fr3.i 91 50]; exact rs2.1, fun t => ⟨by rw [fr3.i 91 48]; exact (rs2.2 t).1, fun k hk => by rw [fr3.i 122 k]; exact (rs2.2 t).2 k hk⟩⟩
    have take : okp bad one r n = true → (s.1 = false ∨ s.2.1 < rwp g r n) → E mX12_seekBest d 0 0 111 [(0, .ref 91), (2, .int 0)] [] (hI (hI q2 91 50 1) 91 48 (q2.1 91 51)) (Qv F) X := fun ok hz => by
      have f3 : Fr [] [(91, 48), (91, 50)] q2 (hI (hI q2 91 50 1) 91 48 (q2.1 91 51)) := Fr.tr Fr.pI Fr.pI
      refine lp_best111 (h := hI (hI q2 91 50 1) 91 48 (q2.1 91 51)) hn hd (f3.sd hS2) (by rw [f3.i 91 42, m42]) (R2.fr f3) (fun q4 fr4 I4 => ok_goesOn (by omega) hn h1 (fr4.sd (f3.sd hS2)) (by rw [fr4.i 91 42, f3.i 91 42, m42]) (R2.fr (Fr.tr (Fr.mono f3) (Fr.mono fr4) : Fr [122] [(91, 48), (91, 50)] q2 q4)) fun q5 fr5 R5 => hP q5 (Fr.tr fr12 (Fr.tr (Fr.mono f3) (Fr.tr (Fr.mono fr4) (Fr.mono fr5)))) R5 ?_) n 0 _ (by omega) Fr.rf fun k hk => absurd hk (Nat.not_lt_zero _)
      rw [lfo, ok, if_pos rfl, actB, if_pos hz]
      exact ⟨by rw [fr5.i 91 50, fr4.i 91 50, hI_j (by decide), hI_k]; rfl, fun _ => ⟨by rw [fr5.i 91 48, fr4.i 91 48, hI_k, e51 ok], fun k hk => by rw [fr5.i 122 k]; exact I4 k hk⟩⟩
    refine ⟨fun z => again (by rw [lfo, bI_0.mp z, if_neg (by decide)]), fun z => ?_⟩
    have ok := bI_n0.mp z
    rw [rs2.1]
    refine ⟨fun z2 => take ok (Or.inl (bI_0.mp z2)), fun z2 => ?_⟩
    have t := bI_n0.mp z2
    rw [(rs2.2 t).1]
    refine ⟨fun z3 => again ?_, fun z3 => take ok (Or.inr ?_)⟩
    · rw [e51 ok] at z3
      rw [lfo, ok, if_pos rfl, actB, if_neg]
      rintro (q | q)
      · rw [t] at q; cases q
      · exact absurd z3 (Int32.not_le.mpr q)
    · rw [e51 ok] at z3
      exact Int32.not_le.mp z3
  · have e1 : enumN (lfo bad one n (actB g n)) (n - 1) 1 (fun _ => 0) (mxr (fun _ => 0) 1 + 1) s0 = best0 bad one g n := by
      obtain ⟨k, rfl⟩ : ∃ k, n = k + 1 := ⟨n - 1, by omega⟩
      rw [best0, enumN, itr, itr, e0, Nat.add_sub_cancel]
      have : upr (fun _ => 0) 0 0 = fun _ => 0 := upr_same (r := fun _ => 0) (i := 0)
      rw [this]
      rfl
    rw [e1] at rs
    exact sgX12_seekBest_67 _ hd (fr.sd hS) ⟨fun _ => hq q fr rs, fun z => absurd rfl z⟩
theorem lp_best12 {F : Hp → Prop} {i : Nat} (hn : n ≤ 9) (hd : 5 ≤ d) (hS : Std h.2.2) (M : MBd n mb bad one h) (hi : i < n)
    (hw : ∀ (a b : Nat) (q : Hp) (F : Int32 → Hp → Prop), Fr [124] [] h q → a < n → b < a → F (g a b) q → OKi d mX12_worthOf_ [.ref 91, .int (nI (mb a)), .int (nI (mb b))] q F X)
    (nx : ∀ q, Fr [124] [] h q → WHd (i + 1) g q → E mX12_seekBest d 0 0 2 [(0, .ref 91), (1, .int (nI (i + 1)))] [] q (Qv F) X) :
    ∀ (m j : Nat) (q : Hp), j + m = i → Fr [124] [] h q → (∀ a b, b < a → (a < i ∨ (a = i ∧ b < j)) → q.1 124 (9 * a + b) = g a b) → E mX12_seekBest d 0 0 12 [(0, .ref 91), (1, .int (nI i)), (2, .int (nI j))] [] q (Qv F) X := by
  intro m
  induction m with
  | zero =>
    intro j q e fr I
    have : j = i := by omega
    subst this
    refine sgX12_seekBest_12 _ _ hd (fr.sd hS) ⟨fun _ => ?_, fun z => absurd (Int32.le_refl _) z⟩
    rw [nI_1]
    exact nx q fr fun a b ha hb' => I a b hb' (by omega)
  | succ m ih =>
    intro j q e fr I
    have hj : j < i := by omega
    refine sgX12_seekBest_12 _ _ hd (fr.sd hS) ⟨fun z => absurd z (nI_ge hj (by omega)), fun _ => ⟨vin (by omega), vin (by omega), ?_⟩⟩
    rw [nI_clamp (by omega), nI_clamp (by omega), fr.i 120 i, fr.i 120 j, (M.2.1 i hi).1, (M.2.1 j (by omega)).1]
    refine hw i j q _ fr hi hj ?_
    have eg : (9 : Int32) * nI i + nI j = nI (9 * i + j) := by rw [lit_nI 9, pk_mul, nI_add]
    rw [eg, nI_1, nI_clamp (by omega)]
    refine ⟨vin (by omega), ih (j + 1) _ (by omega) (Fr.tr fr Fr.pI) fun a b hb' hlt => ?_⟩
    rw [hI_if]
    by_cases e2 : 9 * a + b = 9 * i + j
    · have h1 : a = i := by omega
      have h2 : b = j := by omega
      rw [if_pos e2, h1, h2]
    · rw [if_neg e2]
      refine I a b hb' ?_
      obtain z | ⟨z, z2⟩ := hlt
      · exact Or.inl z
      · refine Or.inr ⟨z, ?_⟩
        have : b ≠ j := fun q => e2 (by rw [z, q])
        omega
theorem ok_seekBest {F : Hp → Prop} (hn : n ≤ 9) (h1 : 1 ≤ n) (hd : 6 ≤ d) (hS : Std h.2.2) (M : MBd n mb bad one h)
    (hw : ∀ (d a b : Nat) (q : Hp) (F : Int32 → Hp → Prop), 5 ≤ d → Fr [124] [] h q → a < n → b < a → F (g a b) q → OKi d mX12_worthOf_ [.ref 91, .int (nI (mb a)), .int (nI (mb b))] q F X)
    (hq : ∀ q, Fr [121, 122, 124] [(91, 48), (91, 50), (91, 51)] h q → WHd n g q → RSM n (best0 bad one g n) q → F q) : OKv d mX12_seekBest [.ref 91] h F X := by
  have go : ∀ (m i : Nat) (q : Hp), i + m = n → Fr [124] [] h q → WHd i g q → E mX12_seekBest 5 0 0 2 [(0, .ref 91), (1, .int (nI i))] [] q (Qv F) X := by
    intro m
    induction m with
    | zero =>
      intro i q e fr W
      have : i = n := by omega
      subst this
      refine sgX12_seekBest_2 _ (Nat.le_refl _) (fr.sd hS) ⟨fun _ => ?_, fun z => absurd (by rw [fr.i 91 42, M.1]; exact Int32.le_refl _) z⟩
      have f0 : Fr [124] [(91, 50)] h (hI q 91 50 0) := Fr.tr (Fr.mono fr) Fr.pI
      refine ok_begins (n := i) (by omega) hn (f0.sd hS) fun q2 fr2 R2 => ?_
      have f2 : Fr [121, 124] [(91, 50)] h q2 := Fr.tr (Fr.mono f0) (Fr.mono fr2)
      have W2 : WHd i g q2 := W.fr (Fr.tr (Fr.pI (L := [121]) (fs := [(91, 50)])) (Fr.mono fr2))
      refine lp_best67 (s0 := (false, 0, fun _ => 0)) hn h1 (Nat.le_refl _) (f2.sd hS) (M.fr f2) W2 R2 ⟨by rw [fr2.i 91 50, hI_k]; rfl, fun z => absurd z (by decide)⟩ rfl fun q3 fr3 rs3 => hq q3 (Fr.tr (Fr.mono f2) (Fr.mono fr3)) (W2.fr fr3) rs3
    | succ m ih =>
      intro i q e fr W
      refine sgX12_seekBest_2 _ (Nat.le_refl _) (fr.sd hS) ⟨fun z => absurd z (by rw [fr.i 91 42, M.1]; exact nI_ge (by omega) (by omega)), fun _ => ?_⟩
      exact lp_best12 hn (Nat.le_refl _) (fr.sd hS) (M.fr fr) (by omega) (fun a b q2 F fr2 ha hb' hF => hw 5 a b q2 F (Nat.le_refl _) (Fr.tr fr fr2) ha hb' hF) (fun q2 fr2 W2 => ih (i + 1) q2 (by omega) (Fr.tr fr fr2) W2) i 0 q (by omega) Fr.rf fun a b hb' hlt => W a b (by omega) hb'
  exact enX12_seekBest hd hS (go n 0 h (by omega) Fr.rf fun a b ha => absurd ha (Nat.not_lt_zero _))
end SEEKS
