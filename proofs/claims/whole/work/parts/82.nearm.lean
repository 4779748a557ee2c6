/-! near, by the reference -/
section NEARM
variable {h : Hp} {d n : Nat} {X : String → Hp → Prop} {bad one : Nat → Nat → Bool} {g : Nat → Nat → Int32} {mb : Nat → Nat} {least : Int32}
def RNM (n : Nat) (s : SN) (h : Hp) : Prop := h.1 91 49 = nI s.1 ∧ ∀ i k, i < n → k < i → h.1 123 (9 * i + k) = nI (s.2 i k)
theorem lp_near79 {F : Hp → Prop} {r : Nat → Nat} {s : SN} {t : Int32} {i : Nat} (hn : n ≤ 9) (hd : 2 ≤ d) (hS : Std h.2.2) (R : RWd n r h) (hi : i < n)
    (nx : ∀ q, Fr [123] [] h q → (∀ a b, a < n → b < a → q.1 123 (9 * a + b) = nI (s.2 a b + if a < i + 1 ∧ r a = r b then 1 else 0)) → E mX12_seekNear d 0 0 68 [(0, .ref 91), (1, .int t), (3, .int (nI (i + 1)))] [] q (Qv F) X) :
    ∀ (m j : Nat) (q : Hp), j + m = i → Fr [123] [] h q → (∀ a b, a < n → b < a → q.1 123 (9 * a + b) = nI (s.2 a b + if (a < i ∨ (a = i ∧ b < j)) ∧ r a = r b then 1 else 0)) → E mX12_seekNear d 0 0 79 [(0, .ref 91), (1, .int t), (3, .int (nI i)), (4, .int (nI j))] [] q (Qv F) X := by
  intro m
  induction m with
  | zero =>
    intro j q e fr I
    have : j = i := by omega
    subst this
    refine sgX12_seekNear_79 _ _ _ hd (fr.sd hS) ⟨fun _ => ?_, fun z => absurd (Int32.le_refl _) z⟩
    rw [nI_1]
    refine nx q fr fun a b ha hb' => ?_
    rw [I a b ha hb']
    congr 2
    by_cases e1 : r a = r b
    · by_cases e2 : a < j + 1
      · rw [if_pos ⟨by omega, e1⟩, if_pos ⟨e2, e1⟩]
      · rw [if_neg (by omega), if_neg (by omega)]
    · rw [if_neg (fun z => e1 z.2), if_neg (fun z => e1 z.2)]
  | succ m ih =>
    intro j q e fr I
    have hj : j < i := by omega
    have eg : (9 : Int32) * nI i + nI j = nI (9 * i + j) := by rw [lit_nI 9, pk_mul, nI_add]
    have ri := R.2 i
    have rj := R.2 j
    have step : ∀ v : Nat, v = (if r i = r j then 1 else 0) → E mX12_seekNear d 0 0 79 [(0, .ref 91), (1, .int t), (3, .int (nI i)), (4, .int (nI (j + 1)))] [] (hI q 123 (9 * i + j) (q.1 123 (9 * i + j) + nI v)) (Qv F) X := fun v hv => by
      refine ih (j + 1) _ (by omega) (Fr.tr fr Fr.pI) fun a b ha hb' => ?_
      rw [hI_if]
      by_cases e2 : 9 * a + b = 9 * i + j
      · have h1 : a = i := by omega
        have h2 : b = j := by omega
        subst h1 h2
        rw [if_pos rfl, I a b ha hb', nI_add, hv]
        congr 1
        rw [if_neg (show ¬ ((a < a ∨ a = a ∧ b < b) ∧ r a = r b) from fun z => by omega)]
        by_cases e3 : r a = r b
        · rw [if_pos e3, if_pos ⟨Or.inr ⟨rfl, by omega⟩, e3⟩]
        · rw [if_neg e3, if_neg (fun z => e3 z.2)]
      · rw [if_neg e2, I a b ha hb']
        congr 2
        by_cases e3 : r a = r b
        · by_cases e4 : a < i ∨ (a = i ∧ b < j)
          · rw [if_pos ⟨e4, e3⟩, if_pos ⟨by omega, e3⟩]
          · rw [if_neg (fun z => e4 z.1), if_neg]
            intro z
            have : a = i ∧ b < j + 1 := by omega
            have : b ≠ j := fun q => e2 (by rw [this.1, q])
            omega
        · rw [if_neg (fun z => e3 z.2), if_neg (fun z => e3 z.2)]
    refine sgX12_seekNear_79 _ _ _ hd (fr.sd hS) ⟨fun z => absurd z (nI_ge hj (by omega)), fun _ => ?_⟩
    rw [eg, nI_1, nI_clamp (by omega), nI_clamp (by omega), nI_clamp (by omega), fr.i 121 i, fr.i 121 j, R.1 i hi, R.1 j (by omega), nI_eq (by omega) (by omega)]
    exact ⟨vin (by omega), vin (by omega), vin (by omega), fun z => ⟨vin (by omega), step 1 (by rw [if_pos z])⟩, fun z => ⟨vin (by omega), step 0 (by rw [if_neg z])⟩⟩
theorem lp_near68 {F : Hp → Prop} {r : Nat → Nat} {s : SN} {t : Int32} (hn : n ≤ 9) (hd : 2 ≤ d) (hS : Std h.2.2) (h1 : h.1 91 42 = nI n) (R : RWd n r h)
    (nx : ∀ q, Fr [123] [] h q → (∀ a b, a < n → b < a → q.1 123 (9 * a + b) = nI (s.2 a b + if r a = r b then 1 else 0)) → OKi d mX12_goesOn [.ref 91] q (fun (r2 : Int32) (h3 : Hp) => E mX12_seekNear d 0 0 32 [(0, .ref 91), (1, .int t), (2, .int r2)] [] h3 (Qv F) X) X) :
    ∀ (m i : Nat) (q : Hp), i + m = n → Fr [123] [] h q → (∀ a b, a < n → b < a → q.1 123 (9 * a + b) = nI (s.2 a b + if a < i ∧ r a = r b then 1 else 0)) → E mX12_seekNear d 0 0 68 [(0, .ref 91), (1, .int t), (3, .int (nI i))] [] q (Qv F) X := by
  intro m
  induction m with
  | zero =>
    intro i q e fr I
    have : i = n := by omega
    subst this
    refine sgX12_seekNear_68 _ _ hd (fr.sd hS) ⟨fun _ => nx q fr fun a b ha hb' => ?_, fun z => absurd (by rw [fr.i 91 42, h1]; exact Int32.le_refl _) z⟩
    rw [I a b ha hb']
    congr 2
    by_cases e3 : r a = r b
    · rw [if_pos ⟨ha, e3⟩, if_pos e3]
    · rw [if_neg (fun z => e3 z.2), if_neg e3]
  | succ m ih =>
    intro i q e fr I
    refine sgX12_seekNear_68 _ _ hd (fr.sd hS) ⟨fun z => absurd z (by rw [fr.i 91 42, h1]; exact nI_ge (by omega) (by omega)), fun _ => ?_⟩
    refine lp_near79 (s := s) (r := r) hn hd (fr.sd hS) (R.fr fr) (by omega) (fun q2 fr2 I2 => ih (i + 1) q2 (by omega) (Fr.tr fr fr2) I2) i 0 q (by omega) Fr.rf fun a b ha hb' => ?_
    rw [I a b ha hb']
    congr 2
    by_cases e3 : a < i ∧ r a = r b
    · rw [if_pos e3, if_pos ⟨Or.inl e3.1, e3.2⟩]
    · rw [if_neg e3, if_neg (fun z => e3 ⟨by omega, z.2⟩)]
theorem lp_near32 {F : Hp → Prop} {t : Int32} (hn : n ≤ 9) (h1 : 1 ≤ n) (hd : 2 ≤ d) (hS : Std h.2.2) (M : MBd n mb bad one h) (W : WHd n g h) (R0 : RWd n (fun _ => 0) h) (el : h.1 91 48 - t = least) (rs0 : RNM n (0, fun _ _ => 0) h)
    (hq : ∀ q, Fr [121, 123] [(91, 49), (91, 51)] h q → RNM n (near0 bad one g n least) q → F q) : E mX12_seekNear d 0 0 32 [(0, .ref 91), (1, .int t), (2, .int 1)] [] h (Qv F) X := by
  have key := odo (leaf := lfo bad one n (actN g n least)) (n := n)
    (P := fun b r s => ∀ q, Fr [121, 123] [(91, 49), (91, 51)] h q → RWd n r q → RNM n s q → E mX12_seekNear d 0 0 32 [(0, .ref 91), (1, .int t), (2, .int (bI b))] [] q (Qv F) X)
    (Top := fun r s => ∀ q, Fr [121, 123] [(91, 49), (91, 51)] h q → RWd n r q → RNM n s q → E mX12_seekNear d 0 0 32 [(0, .ref 91), (1, .int t), (2, .int 1)] [] q (Qv F) X)
    (fun r s hP q fr R rs => ?_) (fun r s hT => hT) (n - 1) 1 (fun _ => 0) (0, fun _ _ => 0) (by omega) (Nat.le_refl _) (fun _ _ => rfl) (fun q fr R rs => ?_)
  · exact key h Fr.rf R0 rs0
  · have hS' := fr.sd hS
    refine sgX12_seekNear_32 _ _ hd hS' ⟨fun z => absurd z (by decide), fun _ => ok_isParting (by omega) hn hS' (M.fr fr) (W.fr fr) R fun q2 fr2 e51 => ?_⟩
    have hS2 := fr2.sd hS'
    have fr12 : Fr [121, 123] [(91, 49), (91, 51)] h q2 := Fr.tr fr (Fr.mono fr2)
    have rs2 : RNM n s q2 := ⟨by rw [fr2.i 91 49]; exact rs.1, fun i k hi hk => by rw [fr2.i 123]; exact rs.2 i k hi hk⟩
    have R2 : RWd n r q2 := R.fr fr2
    have m42 : q2.1 91 42 = nI n := (M.fr fr12).1
    have el2 : q2.1 91 48 - t = least := by rw [fr12.i 91 48]; exact el
    have again : lfo bad one n (actN g n least) r s = s → OKi d mX12_goesOn [.ref 91] q2 (fun (r7 : Int32) (h8 : Hp) => E mX12_seekNear d 0 0 32 [(0, .ref 91), (1, .int t), (2, .int r7)] [] h8 (Qv F) X) X := fun es => by
      refine ok_goesOn (by omega) hn h1 hS2 m42 R2 fun q3 fr3 R3 => ?_
      rw [es] at hP
      exact hP q3 (Fr.tr fr12 (Fr.mono fr3)) R3 ⟨by rw [fr3.i 91 49]; exact rs2.1, fun i k hi hk => by rw [fr3.i 123]; exact rs2.2 i k hi hk⟩
    rw [el2]
    refine ⟨fun z => again (by rw [lfo, bI_0.mp z, if_neg (by decide)]), fun z => ?_⟩
    have ok := bI_n0.mp z
    rw [e51 ok]
    refine ⟨fun z2 => again (by rw [lfo, ok, if_pos rfl, actN, if_pos z2]), fun z2 => ?_⟩
    have f3 : Fr [] [(91, 49)] q2 (hI q2 91 49 (q2.1 91 49 + 1)) := Fr.pI
    refine lp_near68 (h := hI q2 91 49 (q2.1 91 49 + 1)) (s := s) (r := r) hn hd (f3.sd hS2) (by rw [f3.i 91 42, m42]) (R2.fr f3) (fun q4 fr4 I4 => ok_goesOn (by omega) hn h1 (fr4.sd (f3.sd hS2)) (by rw [fr4.i 91 42, f3.i 91 42, m42]) (R2.fr (Fr.tr (Fr.mono f3) (Fr.mono fr4) : Fr [123] [(91, 49)] q2 q4)) fun q5 fr5 R5 => hP q5 (Fr.tr fr12 (Fr.tr (Fr.mono f3) (Fr.tr (Fr.mono fr4) (Fr.mono fr5)))) R5 ?_) n 0 _ (by omega) Fr.rf fun a b ha hb' => ?_
    · rw [lfo, ok, if_pos rfl, actN, if_neg z2]
      exact ⟨by rw [fr5.i 91 49, fr4.i 91 49, hI_k, rs2.1, nI_1], fun i k hi hk => by rw [fr5.i 123]; exact I4 i k hi hk⟩
    · rw [if_neg (fun z => Nat.not_lt_zero _ z.1), Nat.add_zero, f3.i 123]
      exact rs2.2 a b ha hb'
  · have e1 : enumN (lfo bad one n (actN g n least)) (n - 1) 1 (fun _ => 0) (mxr (fun _ => 0) 1 + 1) (0, fun _ _ => 0) = near0 bad one g n least := by
      obtain ⟨k, rfl⟩ : ∃ k, n = k + 1 := ⟨n - 1, by omega⟩
      rw [near0, enumN, itr, itr, Nat.add_sub_cancel]
      have : upr (fun _ => 0) 0 0 = fun _ => 0 := upr_same (r := fun _ => 0) (i := 0)
      rw [this]
      rfl
    rw [e1] at rs
    exact sgX12_seekNear_32 _ _ hd (fr.sd hS) ⟨fun _ => hq q fr rs, fun z => absurd rfl z⟩
theorem ok_seekNear {F : Hp → Prop} {t : Int32} (hn : n ≤ 9) (h1 : 1 ≤ n) (hd : 3 ≤ d) (hS : Std h.2.2) (M : MBd n mb bad one h) (W : WHd n g h)
    (hq : ∀ q, Fr [121, 123] [(91, 49), (91, 51)] h q → RNM n (near0 bad one g n (h.1 91 48 - t)) q → F q) : OKv d mX12_seekNear [.ref 91, .int t] h F X := by
  have go : ∀ (m i : Nat) (q : Hp), i + m = 81 → Fr [123] [(91, 49)] h q → q.1 91 49 = 0 → (∀ k, k < i → q.1 123 k = 0) → E mX12_seekNear 2 0 0 7 [(0, .ref 91), (1, .int t), (2, .int (nI i))] [] q (Qv F) X := by
    intro m
    induction m with
    | zero =>
      intro i q e fr e49 I
      have : i = 81 := by omega
      subst this
      refine sgX12_seekNear_7 _ _ (Nat.le_refl _) (fr.sd hS) ⟨fun _ => ok_begins (by omega) hn (fr.sd hS) fun q2 fr2 R2 => ?_, fun z => absurd (Int32.le_refl _) z⟩
      have f2 : Fr [121, 123] [(91, 49)] h q2 := Fr.tr (Fr.mono fr) (Fr.mono fr2)
      exact lp_near32 hn h1 (Nat.le_refl _) (f2.sd hS) (M.fr f2) (W.fr f2) R2 (by rw [f2.i 91 48]) ⟨by rw [fr2.i 91 49, e49]; rfl, fun i k hi hk => by rw [fr2.i 123, I _ (by omega)]; rfl⟩ fun q3 fr3 rs3 => hq q3 (Fr.tr (Fr.mono f2) fr3) rs3
    | succ m ih =>
      intro i q e fr e49 I
      refine sgX12_seekNear_7 _ _ (Nat.le_refl _) (fr.sd hS) ⟨fun z => absurd z (nI_ge (a := i) (b := 81) (by omega) (by omega)), fun _ => ⟨vin (by omega), ?_⟩⟩
      rw [nI_1, nI_clamp (by omega)]
      refine ih (i + 1) _ (by omega) (Fr.tr fr Fr.pI) (by rw [hI_c (by decide)]; exact e49) fun k hk => ?_
      rw [hI_if]
      by_cases e2 : k = i
      · rw [if_pos e2]
      · rw [if_neg e2]; exact I k (by omega)
  exact enX12_seekNear _ hd hS (go 81 0 _ (by omega) Fr.pI hI_k fun k hk => absurd hk (Nat.not_lt_zero _))
end NEARM
