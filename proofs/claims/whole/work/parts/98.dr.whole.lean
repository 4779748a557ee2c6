/-! the law from its entry -/
theorem txt_of {own : String} {k : Nat} {bs : List Int32} {args : Array Value} {s : State} {A : Nat → Prop} (g : GvT own k bs args s) (hN : bs.length < 2 ^ 31) (hA : ∀ a : Nat, a < s.heap.size → ¬ A a) : ∃ a t : Nat, (Term.string own k).eval args s none [] s = some (.ref a) ∧ va_O "java/lang/String" a A s s.heap ∧ va_OF "java/lang/String" "coder" "B" (.int 0) a A s s.heap ∧ va_OF "java/lang/String" "value" "[B" (.ref t) a A s s.heap ∧ va_T .byte t bs.length (fun j => .int (bs.getD j 0)) A s s.heap := by
  obtain ⟨g1, g2, g3, g4, g5⟩ := g
  obtain ⟨a, c, cA, kA, q1, q2, q3, q4, q5, q6, -⟩ := Cond.exactly_spec (args := args) (first := s) (o := none) (s := s) (idx := []) (t := .string own k) (cls := "java/lang/String") g1
  obtain ⟨t, ht, hT⟩ := va_Tof (f := fun j => .int (bs.getD j 0)) (A := A) hN g3 (va_eqt g4) (fun j hj => va_eqt (by have := els_at (P := fun w => w.before args s = true) bs 0 g5 j hj; rw [Nat.zero_add] at this; exact this)) hA
  exact ⟨a, t, q1, ⟨cA, q3, q5, by rw [q6]; exact q2, hA a (Array.getElem?_eq_some_iff.mp q3).1⟩, vk_OFof q1 (va_eqt g2) hA, vk_OFof q1 ht hA, hT⟩
theorem tx_in : (∀ q ∈ txL, q.1 < 48) ∧ (∀ q ∈ txL, q.2.length < 200) ∧ ∀ q ∈ txL, txL.find? (fun r => r.1 == q.1) = some q := by decide +kernel
theorem strL_len : strL.length = 48 := by decide +kernel
theorem strL_at {i : Nat} (h : i < 48) : strL[i]? = some (strL.getD i ("", 0, "")) := by
  rw [List.getD_eq_getElem?_getD, List.getElem?_eq_getElem (by rw [strL_len]; exact h)]; rfl
theorem arr_of {ty : FieldType} {args : Array Value} {s : State} (h : (Cond.arrayClass ty).before args s = true) : ∃ cA : ClassId, ArrOfT s cA ty ∧ s.vm.findClass ("[" ++ ty.toString) = some cA := by
  obtain ⟨cA, kA, comp, h1, h2, h3⟩ := Cond.arrayClass_spec h
  exact ⟨cA, fun n z => ⟨fun k h => (by cases h), kA, h2, comp, h3⟩, h1⟩
theorem cls_of {args : Array Value} {s : State} (hbig : ∀ w ∈ BIG, w.before args s = true) : ∃ (dC : Nat → ClassId) (dI : Nat → Nat → Nat), ∀ (k : Nat) (q : vw_C), vwCl[k]? = some q → u_Kn s q.1 q.2.1 q.2.2 (dC k) (dI k) := by
  have all : ∀ q ∈ vwCl, (∃ z : ClassId × (Nat → Nat), u_Kn s q.1 q.2.1 q.2.2 z.1 z.2) := by
    have go : ∀ {C : String} {T : u_T} {N n : Nat}, (∀ w ∈ u_ws C T N, w ∈ BIG) → Cond.instantiable C n ∈ BIG → ∃ z : ClassId × (Nat → Nat), u_Kn s C T N z.1 z.2 := fun h1 h2 => by
      obtain ⟨c, i, h⟩ := u_known hbig h1 (hbig _ h2)
      exact ⟨(c, i), h⟩
    intro q hq
    simp only [vwCl, List.mem_cons, List.mem_nil_iff, or_false] at hq
    obtain rfl | rfl | rfl | rfl | rfl | rfl | rfl | rfl | rfl | rfl | rfl | rfl | rfl := hq
    · exact go inX0 b_1_90
    · exact go inX1 b_2_67
    · exact go inX2 b_1_36
    · exact go inX3 b_1_203
    · exact go inX4 b_1_162
    · exact go inX5 b_2_14
    · exact go inX6 b_2_176
    · exact go inX7 b_2_134
    · exact go inX8 b_1_185
    · exact go inX9 b_2_90
    · exact go inX10 b_2_215
    · exact go inX11 b_1_28
    · exact go inX12 b_8_17
  have h : ∀ k : Nat, ∃ z : ClassId × (Nat → Nat), ∀ q : vw_C, vwCl[k]? = some q → u_Kn s q.1 q.2.1 q.2.2 z.1 z.2 := fun k => by
    cases e : vwCl[k]? with
    | none => exact ⟨(0, fun _ => 0), fun q z => by cases z⟩
    | some q =>
      obtain ⟨z, hz⟩ := all q (List.mem_of_getElem? e)
      exact ⟨z, fun q' e' => by cases e'; exact hz⟩
  obtain ⟨f, hf⟩ := Classical.axiomOfChoice h
  exact ⟨fun k => (f k).1, fun k => (f k).2, hf⟩
set_option maxRecDepth 100000 in
theorem law_main {xs : Nat → Int32} {L : Nat} (hL : L ≤ 3584) : EL xs L 0 0 0 [(0, .ref 4000)] [] (hX [] 0) :=
  sgL_start (law_loop (σ := HZ) (h := HZ) hL 513 0 (by omega) (by omega) (by omega) (by omega) Cpl_0)
/-- YOUR PART: from the entry, for every script of at most 3584 ints, the law comes to its end with true ('hflags': the launch's flags, for a law that throws: no stack traces) -/
theorem whole_start {p : Program} {e : Env} {s : State} {m : MethodId} {below : List Frame} {meth : Method} {c : Code} (l : Launch) (hflags : l.flags = flags0) {b L : Nat} {xs : Nat → Int32} (hL : L ≤ 3584) (C0 : lw_At p s m meth c b L xs) : W p l e room_1 s m #[Value.ref b] below meth c s.heap [] 0 0 (lw_Z below #[Value.ref b] s) (entryFrame m ([Value.ref b] : List Value).toArray 8) := by
  obtain ⟨hx, hb, hr, hml, hown, hts, hV, hbl, hlocks, hgv⟩ := id C0
  have hnw : narrow_1.before #[Value.ref b] s = true := by
    rw [Cond.before_and, Bool.and_eq_true] at hgv
    exact hgv.2
  have hbig : ∀ w ∈ BIG, w.before #[Value.ref b] s = true := fun w hw => hts w (List.mem_filter.mp hw).1
  obtain ⟨A, eA⟩ : ∃ A : Nat → Prop, A = fun q => s.heap.size ≤ q := ⟨_, rfl⟩
  have hA : ∀ q : Nat, s.heap.size ≤ q → A q := fun q h => by rw [eA]; exact h
  have hA1 : ∀ q : Nat, A q → s.heap.size ≤ q := fun q h => by rw [eA] at h; exact h
  have hA2 : ∀ a : Nat, a < s.heap.size → ¬ A a := fun a h z => Nat.not_le.mpr h (hA1 a z)
  obtain ⟨dC, dI, hKc⟩ := cls_of hbig
  obtain ⟨g1, a1, r1⟩ := arr_of (hbig _ b_1_88)
  obtain ⟨g2, a2, r2⟩ := arr_of (hbig _ b_1_160)
  obtain ⟨g3, a3, r3⟩ := arr_of (hbig _ b_2_12)
  have hK : va_K (dC, dI) vwCl (tysC (g1, g2, g3)) s := by
    refine ⟨hKc, fun k q h => ?_⟩
    match k, h with
    | 0, h => cases h; exact ⟨a1, r1⟩
    | 1, h => cases h; exact ⟨a2, r2⟩
    | 2, h => cases h; exact ⟨a3, r3⟩
    | k + 3, h => cases h
  -- the texts
  have hs : ∀ i : Nat, ∃ a : Nat, ∀ q, strL[i]? = some q → (Term.string q.1 q.2.1).eval #[Value.ref b] s none [] s = some (.ref a) := fun i => by
    cases ei : strL[i]? with
    | none => exact ⟨0, fun q z => by cases z⟩
    | some q =>
      obtain ⟨a, c, cA, kA, q1, -⟩ := Cond.exactly_spec (args := #[Value.ref b]) (first := s) (o := none) (s := s) (idx := []) (t := .string q.1 q.2.1) (cls := "java/lang/String") (all_map (gv_ex hnw) q (List.mem_of_getElem? ei))
      exact ⟨a, fun q' e' => by cases e'; exact q1⟩
  obtain ⟨aS, hs⟩ := Classical.axiomOfChoice hs
  have hv : ∀ i : Nat, ∃ t : Nat, ∀ q, txL.find? (fun r => r.1 == i) = some q → q.1 = i → va_O "java/lang/String" (aS i) A s s.heap ∧ va_OF "java/lang/String" "coder" "B" (.int 0) (aS i) A s s.heap ∧ va_OF "java/lang/String" "value" "[B" (.ref t) (aS i) A s s.heap ∧ va_T .byte t q.2.length (fun j => .int (q.2.getD j 0)) A s s.heap := fun i => by
    cases ei : txL.find? (fun r => r.1 == i) with
    | none => exact ⟨0, fun q z => by cases z⟩
    | some q =>
      have hq := List.mem_of_find?_eq_some ei
      have h200 := tx_in.2.1 q hq
      obtain ⟨a, t, h1, h2, h3, h4, h5⟩ := txt_of (A := A) (gv_tx hnw q hq) (by omega) hA2
      refine ⟨t, fun q' e' ez => ?_⟩
      cases e'
      have e1 := hs q.1 _ (strL_at (tx_in.1 q hq))
      cases e1.symm.trans h1
      rw [← ez]
      exact ⟨h2, h3, h4, h5⟩
  obtain ⟨vS, hv⟩ := Classical.axiomOfChoice hv
  obtain ⟨f, hf⟩ : ∃ f : Nat, va_Z "jdk/internal/util/Preconditions" "SIOOBE_FORMATTER" "Ljava/util/function/BiFunction;" (.ref f) A s s.heap ∨ va_Z "jdk/internal/util/Preconditions" "SIOOBE_FORMATTER" "Ljava/util/function/BiFunction;" .null A s s.heap := by
    obtain z | ⟨t, z⟩ := va_Zqof (hts _ tl_sf) (hbig _ b_1_24) (gv_sf hnw) hA2
    · exact ⟨0, Or.inr z⟩
    · exact ⟨t, Or.inl z⟩
  obtain ⟨ad0, d1, d2, d3, d4⟩ : ∃ ad0 : Nat → Nat, (∀ i, i < 48 → ad0 (1000 + i) = aS i) ∧ (∀ i, i < 48 → ad0 (2000 + i) = vS i) ∧ ad0 3000 = f ∧ ad0 4000 = b := by
    refine ⟨fun q => if q = 4000 then b else if q = 3000 then f else if 2000 ≤ q then vS (q - 2000) else aS (q - 1000), fun i hi => ?_, fun i hi => ?_, rfl, rfl⟩
    · show (if 1000 + i = 4000 then b else if 1000 + i = 3000 then f else if 2000 ≤ 1000 + i then vS (1000 + i - 2000) else aS (1000 + i - 1000)) = _
      rw [if_neg (by omega), if_neg (by omega), if_neg (by omega), Nat.add_sub_cancel_left]
    · show (if 2000 + i = 4000 then b else if 2000 + i = 3000 then f else if 2000 ≤ 2000 + i then vS (2000 + i - 2000) else aS (2000 + i - 1000)) = _
      rw [if_neg (by omega), if_neg (by omega), if_pos (by omega), Nat.add_sub_cancel_left]
  have hst : l.stackTraces = false := by
    unfold Launch.stackTraces
    rw [hflags]
    decide +kernel
  have hStr : StrOK ad0 s := fun i q hq => by
    have hi : i < 48 := by rw [← strL_len]; exact (List.getElem?_eq_some_iff.mp hq).1
    rw [d1 i hi]
    exact vk_R.of (hts _ (all_map tb_str q (List.mem_of_getElem? hq))) (hs i q hq)
  have hSta : StaOK A s s.heap := ⟨vx_Zqof (hts _ tl_us) (hbig _ b_1_14) (gv_us hnw) hA2, vx_Zqof (hts _ tl_ss) (hbig _ b_1_14) (gv_ss hnw) hA2⟩
  have hTxt : TxtOK A ad0 s s.heap := by
    refine ⟨fun q hq => ?_, va_Zof (hts _ tl_cs) (hbig _ b_1_22) (va_eqi (gv_cs hnw)) hA2, ?_⟩
    · have h48 := tx_in.1 q hq
      rw [d1 _ h48, d2 _ h48]
      exact hv q.1 q (tx_in.2.2 q hq) rfl
    · rw [d3]; exact hf
  have hNst : NstOK s := fun q hq => va_Nw.of rfl (hts _ (all_map tb_nst q hq))
  have hCas : CasOK s := ⟨fun q hq => va_Nw.of rfl (hts _ (all_map tb_cas q hq)), fun x hx => va_Nw.of rfl (hts _ (all_map tb_dec x hx))⟩
  have hNc : NcOK s := fun q hq => va_Nc.of (all_map (gv_nc hnw) q hq)
  have hl := lv_entry ([.ref b]) (n := 8) (Nat.le_of_ble_eq_true rfl)
  rw [lg_entry_eq]
  generalize (lg_sl ([.ref b]) ++ List.replicate (8 - (lg_sl ([.ref b])).length) Slot.unset).toArray = ls at hl ⊢
  have hl : lv_has ls 8 [(0, .ref b)] := hl
  exact law_main hL (p, l, e, room_1, s, m, #[Value.ref b], below, meth, c, (dC, dI), (g1, g2, g3), A, ad0, 0, lw_Z below #[Value.ref b] s)
    ⟨hx, hb, hml, hown, hbig, hr, hlocks, hK, hA, hst, hNst, hStr, hSta, hTxt⟩
    ⟨rfl, hCas, hNc, hA1, by rw [d4], by rw [d4]; exact hV, by rw [d4]; exact hbl, rfl⟩
    ad0 s.heap [] ls ⟨fun k q h => (by cases h), ⟨fun i j p q h => (by cases h), fun k q h => (by cases h)⟩, va_S.rf, fun _ _ => rfl, Nat.le_refl _, Nat.zero_le _, fun d k c h => absurd h (Nat.not_lt_zero d)⟩
    (fun q hq => by cases List.mem_singleton.mp hq; exact Or.inr (by decide)) (fun v hv => nomatch hv)
    (by show lv_has ls 8 [(0, .ref (ad0 4000))]; rw [d4]; exact hl)
