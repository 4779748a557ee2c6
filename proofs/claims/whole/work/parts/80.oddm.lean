/-! rows by the reference -/
section ODDM
variable {h : Hp} {d n : Nat} {X : String → Hp → Prop} {bad one : Nat → Nat → Bool} {g : Nat → Nat → Int32} {mb : Nat → Nat}
/-- members and what stands between them -/
def MBd (n : Nat) (mb : Nat → Nat) (bad one : Nat → Nat → Bool) (h : Hp) : Prop :=
  h.1 91 42 = nI n ∧ (∀ i, i < n → h.1 120 i = nI (mb i) ∧ mb i < 60) ∧ ∀ i k, i < n → k < i → (bad i k = decide (h.1 113 (60 * mb i + mb k) = 2)) ∧ (one i k = decide (h.1 113 (60 * mb i + mb k) = 1))
def WHd (n : Nat) (g : Nat → Nat → Int32) (h : Hp) : Prop := ∀ i k, i < n → k < i → h.1 124 (9 * i + k) = g i k
def RWd (n : Nat) (r : Nat → Nat) (h : Hp) : Prop := (∀ k, k < n → h.1 121 k = nI (r k)) ∧ ∀ k, r k ≤ k
theorem MBd.fr {q : Hp} {L : List Nat} {fs : List (Nat × Nat)} (P : MBd n mb bad one h) (fr : Fr L fs h q) (hL : ∀ k, inW L fs 113 k = false ∧ inW L fs 120 k = false := by exact fun _ => ⟨rfl, rfl⟩) (h1 : inW L fs 91 42 = false := by rfl) : MBd n mb bad one q :=
  ⟨by rw [fr.i 91 42 h1]; exact P.1, fun i hi => by rw [fr.i 120 i (hL i).2]; exact P.2.1 i hi, fun i k hi hk => by rw [fr.i 113 _ (hL _).1]; exact P.2.2 i k hi hk⟩
theorem WHd.fr {q : Hp} {L : List Nat} {fs : List (Nat × Nat)} (P : WHd n g h) (fr : Fr L fs h q) (hL : ∀ k, inW L fs 124 k = false := by exact fun _ => rfl) : WHd n g q := fun i k hi hk => by rw [fr.i 124 _ (hL _)]; exact P i k hi hk
theorem RWd.fr {r : Nat → Nat} {q : Hp} {L : List Nat} {fs : List (Nat × Nat)} (P : RWd n r h) (fr : Fr L fs h q) (hL : ∀ k, inW L fs 121 k = false := by exact fun _ => rfl) : RWd n r q := ⟨fun k hk => by rw [fr.i 121 _ (hL _)]; exact P.1 k hk, P.2⟩
theorem lp_part17 {F : Int32 → Hp → Prop} {r : Nat → Nat} {i : Nat} (hn : n ≤ 9) (hS : Std h.2.2) (M : MBd n mb bad one h) (W : WHd n g h) (R : RWd n r h) (hi : i < n) (hok : okp bad one r i = true)
    (hF : okp bad one r (i + 1) = false → ∀ q, Fr [] [(91, 51)] h q → F 0 q)
    (nx : ∀ q, Fr [] [(91, 51)] h q → q.1 91 51 = rwp g r (i + 1) → okp bad one r (i + 1) = true → E mX12_isParting d 0 0 7 [(0, .ref 91), (1, .int (nI (i + 1)))] [] q (Qi F) X) :
    ∀ (m j : Nat) (q : Hp), j + m = i → Fr [] [(91, 51)] h q → q.1 91 51 = rwp g r i + gsm g r i j → okj bad one r i j = true → E mX12_isParting d 0 0 17 [(0, .ref 91), (1, .int (nI i)), (2, .int (nI j))] [] q (Qi F) X := by
  intro m
  induction m with
  | zero =>
    intro j q e fr e51 oj
    have : j = i := by omega
    subst this
    refine sgX12_isParting_17 _ _ (Nat.zero_le _) (fr.sd hS) ⟨fun _ => ?_, fun z => absurd (Int32.le_refl _) z⟩
    rw [nI_1]
    exact nx q fr e51 (by rw [okp, hok, oj]; rfl)
  | succ m ih =>
    intro j q e fr e51 oj
    have hj : j < i := by omega
    have hS' := fr.sd hS
    obtain ⟨m1, m2⟩ := M.2.1 i hi
    obtain ⟨m3, m4⟩ := M.2.1 j (by omega)
    obtain ⟨b1, b2⟩ := M.2.2 i j hi hj
    have ei : (60 : Int32) * nI (mb i) + nI (mb j) = nI (60 * mb i + mb j) := by rw [lit_nI 60, pk_mul, nI_add]
    have eg : (9 : Int32) * nI i + nI j = nI (9 * i + j) := by rw [lit_nI 9, pk_mul, nI_add]
    have ri := R.2 i
    have rj := R.2 j
    have fail : pok bad one r i j = false → E mX12_isParting d 0 0 85 [] [] q (Qi F) X := fun hz => by
      refine sgX12_isParting_85 (Nat.zero_le _) hS' (hF ?_ q fr)
      rw [okp]
      cases e2 : okj bad one r i i
      · rw [Bool.and_false]
      · have := okj_all.mp e2 j hj
        rw [hz] at this; cases this
    have next : ∀ v, v = (if r i = r j then g i j else 0) → pok bad one r i j = true → E mX12_isParting d 0 0 111 [(0, .ref 91), (1, .int (nI i)), (2, .int (nI j))] [.int v, .int (q.1 91 51), .ref 91] q (Qi F) X := fun v hv hz => by
      refine sgX12_isParting_111 _ _ _ _ (Nat.zero_le _) hS' ?_
      rw [nI_1]
      refine ih (j + 1) _ (by omega) (Fr.tr fr Fr.pI) ?_ (by rw [okj, oj, hz]; rfl)
      rw [hI_k, e51, gsm, hv, Int32.add_assoc]
    have j42 : ∀ b, b = decide (r i = r j) → E mX12_isParting d 0 0 42 [(0, .ref 91), (1, .int (nI i)), (2, .int (nI j))] [.int (bI b)] q (Qi F) X := fun b hb' => by
      refine sgX12_isParting_42 _ _ _ (Nat.zero_le _) hS' ⟨vin (by omega), vin (by omega), ?_⟩
      rw [nI_clamp (by omega), nI_clamp (by omega), fr.i 120 i, fr.i 120 j, m1, m3, ei, nI_clamp (by omega), fr.i 113]
      refine ⟨vin (by omega), fun z => ?_, fun z => ?_⟩
      · have hb2 := bI_0.mp z
        rw [hb'] at hb2
        have ne := of_decide_eq_false hb2
        have ep : pok bad one r i j = !one i j := by rw [pok, if_neg ne]
        refine ⟨fun z2 => fail (by rw [ep, b2, decide_eq_true z2]; rfl), fun z2 => sgX12_isParting_87 _ _ _ (Nat.zero_le _) hS' ⟨fun _ => next 0 (by rw [if_neg ne]) (by rw [ep, b2, decide_eq_false z2]; rfl), fun z3 => absurd z z3⟩⟩
      · have hb2 := bI_n0.mp z
        rw [hb'] at hb2
        have eq := of_decide_eq_true hb2
        have ep : pok bad one r i j = !bad i j := by rw [pok, if_pos eq]
        refine ⟨fun z2 => fail (by rw [ep, b1, decide_eq_true z2]; rfl), fun z2 => sgX12_isParting_87 _ _ _ (Nat.zero_le _) hS' ⟨fun z3 => absurd z3 z, fun _ => ?_⟩⟩
        rw [eg, nI_clamp (by omega), fr.i 124, W i j hi hj]
        exact ⟨vin (by omega), next _ (by rw [if_pos eq]) (by rw [ep, b1, decide_eq_false z2]; rfl)⟩
    refine sgX12_isParting_17 _ _ (Nat.zero_le _) hS' ⟨fun z => absurd z (nI_ge hj (by omega)), fun _ => ⟨vin (by omega), vin (by omega), ?_⟩⟩
    rw [nI_clamp (by omega), nI_clamp (by omega), fr.i 121 i, fr.i 121 j, R.1 i hi, R.1 j (by omega), nI_eq (by omega) (by omega)]
    exact ⟨fun z => j42 true (decide_eq_true z).symm, fun z => j42 false (decide_eq_false z).symm⟩
theorem lp_part7 {F : Int32 → Hp → Prop} {r : Nat → Nat} (hn : n ≤ 9) (hS : Std h.2.2) (M : MBd n mb bad one h) (W : WHd n g h) (R : RWd n r h)
    (hq : ∀ q, Fr [] [(91, 51)] h q → (okp bad one r n = true → q.1 91 51 = rwp g r n) → F (bI (okp bad one r n)) q) :
    ∀ (m i : Nat) (q : Hp), i + m = n → Fr [] [(91, 51)] h q → q.1 91 51 = rwp g r i → okp bad one r i = true → E mX12_isParting d 0 0 7 [(0, .ref 91), (1, .int (nI i))] [] q (Qi F) X := by
  intro m
  induction m with
  | zero =>
    intro i q e fr e51 ok
    have : i = n := by omega
    subst this
    have := hq q fr fun _ => e51
    rw [ok] at this
    exact sgX12_isParting_7 _ (Nat.zero_le _) (fr.sd hS) ⟨fun _ => this, fun z => absurd (by rw [fr.i 91 42, M.1]; exact Int32.le_refl _) z⟩
  | succ m ih =>
    intro i q e fr e51 ok
    have hi : i < n := by omega
    refine sgX12_isParting_7 _ (Nat.zero_le _) (fr.sd hS) ⟨fun z => absurd z (by rw [fr.i 91 42, M.1]; exact nI_ge hi (by omega)), fun _ => ?_⟩
    refine lp_part17 hn (fr.sd hS) (M.fr fr) (W.fr fr) (R.fr fr) hi ok (fun hz q2 fr2 => ?_) (fun q2 fr2 e2 ok2 => ih (i + 1) q2 (by omega) (Fr.tr fr fr2) e2 ok2) i 0 q (by omega) Fr.rf (by rw [e51, gsm, Int32.add_zero]) rfl
    have no : okp bad one r n = false := by
      refine Bool.eq_false_iff.mpr fun t => ?_
      rw [okp_down (by omega) t] at hz; cases hz
    have := hq q2 (Fr.tr fr fr2) fun t => by rw [no] at t; cases t
    rw [no] at this
    exact this
theorem ok_isParting {F : Int32 → Hp → Prop} {r : Nat → Nat} (hd : 1 ≤ d) (hn : n ≤ 9) (hS : Std h.2.2) (M : MBd n mb bad one h) (W : WHd n g h) (R : RWd n r h)
    (hq : ∀ q, Fr [] [(91, 51)] h q → (okp bad one r n = true → q.1 91 51 = rwp g r n) → F (bI (okp bad one r n)) q) : OKi d mX12_isParting [.ref 91] h F X := by
  have f0 : Fr [] [(91, 51)] h (hI h 91 51 0) := Fr.pI
  exact enX12_isParting hd hS (lp_part7 hn (f0.sd hS) (M.fr f0) (W.fr f0) (R.fr f0) (fun q fr e => hq q (Fr.tr f0 fr) e) n 0 _ (by omega) Fr.rf hI_k rfl)
theorem mxr_le {r : Nat → Nat} (hr : ∀ k, r k ≤ k) : ∀ j, mxr r (j + 1) ≤ j
  | 0 => by rw [mxr, mxr]; have := hr 0; omega
  | j + 1 => by
    have := mxr_le hr j
    have h2 := hr (j + 1)
    rw [mxr]; omega
theorem upr_le {r : Nat → Nat} {i p : Nat} (hr : ∀ k, r k ≤ k) (hp : p ≤ i) : ∀ k, upr r i p k ≤ k := fun k => by
  by_cases e : k = i
  · rw [e, upr_k]; exact hp
  · rw [upr_j e]; exact hr k
theorem lp_goes15 {F : Int32 → Hp → Prop} {r : Nat → Nat} {j : Nat} (hn : n ≤ 9) (hd : 1 ≤ d) (hS : Std h.2.2) (R : RWd n r h) (hj : j + 1 < n)
    (nx : r (j + 1) ≤ mxr r (j + 1) → F 1 (hI h 121 (j + 1) (nI (r (j + 1) + 1)))) (nx2 : ¬ r (j + 1) ≤ mxr r (j + 1) → E mX12_goesOn d 0 0 7 [(0, .ref 91), (1, .int (nI j))] [] (hI h 121 (j + 1) 0) (Qi F) X) :
    ∀ (m k : Nat), k + m = j + 1 → E mX12_goesOn d 0 0 15 [(0, .ref 91), (1, .int (nI (j + 1))), (2, .int (nI (mxr r k))), (3, .int (nI k))] [] h (Qi F) X := by
  have r1 := R.2 (j + 1)
  intro m
  induction m with
  | zero =>
    intro k e
    have : k = j + 1 := by omega
    subst this
    have ml := mxr_le R.2 j
    refine sgX12_goesOn_15 _ _ _ hd hS ⟨fun _ => ⟨vin (by omega), ?_⟩, fun z => absurd (Int32.le_refl _) z⟩
    rw [nI_clamp (by omega), R.1 (j + 1) (by omega), nI_leI (by omega) (by omega), pk_m1, nI_1]
    exact ⟨fun z => ⟨vin (by omega), vin (by omega), nx z⟩, fun z => ⟨vin (by omega), nx2 z⟩⟩
  | succ m ih =>
    intro k e
    have rk := R.2 k
    have ml : mxr r k ≤ k := by
      cases k with
      | zero => exact Nat.le_refl _
      | succ k => have := mxr_le R.2 k; omega
    refine sgX12_goesOn_15 _ _ _ hd hS ⟨fun z => absurd z (nI_ge (by omega) (by omega)), fun _ => ⟨vin (by omega), ?_⟩⟩
    rw [nI_clamp (by omega), R.1 k (by omega), nI_max (by omega) (by omega), nI_1]
    exact ih (k + 1) (by omega)
theorem lp_goes7 {F : Int32 → Hp → Prop} {rr : Bool × (Nat → Nat)} (hn : n ≤ 9) (hd : 1 ≤ d) (hS : Std h.2.2)
    (hq : ∀ q, Fr [121] [] h q → RWd n rr.2 q → F (bI rr.1) q) :
    ∀ (j : Nat) (r : Nat → Nat) (q : Hp), j < n → Fr [121] [] h q → RWd n r q → nxr r j = rr → E mX12_goesOn d 0 0 7 [(0, .ref 91), (1, .int (nI j))] [] q (Qi F) X := by
  intro j
  induction j with
  | zero =>
    intro r q _ fr R e
    subst e
    exact sgX12_goesOn_7 _ hd (fr.sd hS) ⟨fun _ => hq q fr R, fun z => absurd (Int32.le_refl _) z⟩
  | succ j ih =>
    intro r q hj fr R e
    rw [nxr] at e
    refine sgX12_goesOn_7 _ hd (fr.sd hS) ⟨fun z => absurd z (nI_ge (a := 0) (by omega) (by omega)), fun _ => ?_⟩
    refine lp_goes15 hn hd (fr.sd hS) R hj (fun z => ?_) (fun z => ?_) (j + 1) 0 (by omega)
    · rw [if_pos z] at e
      subst e
      have ml := mxr_le R.2 j
      refine hq _ (Fr.tr fr Fr.pI) ⟨fun k hk => ?_, upr_le R.2 (by omega)⟩
      show _ = nI (upr r (j + 1) (r (j + 1) + 1) k)
      rw [hI_if]
      by_cases ek : k = j + 1
      · rw [if_pos ek, ek, upr_k]
      · rw [if_neg ek, upr_j ek]; exact R.1 k hk
    · rw [if_neg z] at e
      refine ih (upr r (j + 1) 0) _ (by omega) (Fr.tr fr Fr.pI) ⟨fun k hk => ?_, upr_le R.2 (by omega)⟩ e
      rw [hI_if]
      by_cases ek : k = j + 1
      · rw [if_pos ek, ek, upr_k]; rfl
      · rw [if_neg ek, upr_j ek]; exact R.1 k hk
theorem ok_goesOn {F : Int32 → Hp → Prop} {r : Nat → Nat} (hd : 2 ≤ d) (hn : n ≤ 9) (h1 : 1 ≤ n) (hS : Std h.2.2) (hm : h.1 91 42 = nI n) (R : RWd n r h)
    (hq : ∀ q, Fr [121] [] h q → RWd n (nxr r (n - 1)).2 q → F (bI (nxr r (n - 1)).1) q) : OKi d mX12_goesOn [.ref 91] h F X := by
  refine enX12_goesOn hd hS ?_
  obtain ⟨k, rfl⟩ : ∃ k, n = k + 1 := ⟨n - 1, by omega⟩
  rw [hm, nI_m1]
  exact lp_goes7 hn (Nat.le_refl _) hS hq k r h (by omega) Fr.rf R rfl
theorem ok_begins {F : Hp → Prop} (hd : 1 ≤ d) (hn : n ≤ 9) (hS : Std h.2.2) (hq : ∀ q, Fr [121] [] h q → RWd n (fun _ => 0) q → F q) : OKv d mX12_begins [.ref 91] h F X := by
  have go : ∀ (m i : Nat) (q : Hp), i + m = 9 → Fr [121] [] h q → (∀ k, k < i → q.1 121 k = 0) → E mX12_begins 0 0 0 2 [(0, .ref 91), (1, .int (nI i))] [] q (Qv F) X := by
    intro m
    induction m with
    | zero =>
      intro i q e fr I
      have : i = 9 := by omega
      subst this
      exact sgX12_begins_2 _ (Nat.zero_le _) (fr.sd hS) ⟨fun _ => hq q fr ⟨fun k hk => I k (by omega), fun _ => Nat.zero_le _⟩, fun z => absurd (Int32.le_refl _) z⟩
    | succ m ih =>
      intro i q e fr I
      refine sgX12_begins_2 _ (Nat.zero_le _) (fr.sd hS) ⟨fun z => absurd z (nI_ge (a := i) (b := 9) (by omega) (by omega)), fun _ => ⟨vin (by omega), ?_⟩⟩
      rw [nI_1, nI_clamp (by omega)]
      refine ih (i + 1) _ (by omega) (Fr.tr fr Fr.pI) fun k hk => ?_
      rw [hI_if]
      by_cases e2 : k = i
      · rw [if_pos e2]
      · rw [if_neg e2]; exact I k (by omega)
  exact enX12_begins hd hS (go 9 0 h (by omega) Fr.rf fun k hk => absurd hk (Nat.not_lt_zero _))
end ODDM
