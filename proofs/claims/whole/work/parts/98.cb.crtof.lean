/-! rights read on both sides: lines that agree -/
section CRTOF
variable {σ h : Hp} {ls : List LI} {K : Nat → Int32} {P : Nat → Nat} {k : Nat}
theorem tC_split {j : Nat} {l : LI} (e : ls[j]? = some l) : tCl ls = tCl (ls.take j) ++ (ccL l ++ tCl (ls.drop (j + 1))) ∧ tRl ls = tRl (ls.take j) ++ (rcL l ++ tRl (ls.drop (j + 1))) := by
  have hj := (List.getElem?_eq_some_iff.mp e).1
  have e2 : ls[j] = l := (List.getElem?_eq_some_iff.mp e).2
  have d : ls = ls.take j ++ l :: ls.drop (j + 1) := by
    rw [← e2, ← List.drop_eq_getElem_cons hj, List.take_append_drop]
  refine ⟨?_, ?_⟩
  · have := congrArg tCl d
    rw [this]; simp [tCl]
  · have := congrArg tRl d
    rw [this]; simp [tRl]
theorem getD_mid {x y z : List Int32} {i : Nat} (hi : i < y.length) : (x ++ (y ++ z)).getD (x.length + i) 0 = y.getD i 0 := by
  rw [List.getD_eq_getElem?_getD, List.getElem?_append_right (by omega), List.getElem?_append_left (by omega), ← List.getD_eq_getElem?_getD, Nat.add_sub_cancel_left]
/-- a part of a line is worth the same -/
theorem part_eq {cc rc : List Int32} {a a' b : Nat} {t : Prop} (s : SPv a' 14 t (0, 0, cc, rc)) (hC : ∀ i, i < cc.length → h.1 70 (a + i) = cc.getD i 0) (hR : ∀ i, i < rc.length → σ.1 138 (a' + i) = rc.getD i 0) : ∀ ν, ∃ v, ∀ ν', EqN ν' ν → ClsV ν' h a (a + cc.length) v ∧ RefV ν' σ a' (a' + rc.length) v := by
  obtain ⟨val, v1, _, v3⟩ := s
  intro ν
  refine ⟨val ν, fun ν' e => ?_⟩
  rw [← v1 _ _ e]
  obtain ⟨c, n, hr⟩ := v3 ν'
  refine ⟨?_, n, ?_⟩
  · show runC ν' (h.1 70) a (a + cc.length - a) [] = [val ν']
    rw [Nat.add_sub_cancel_left, runC_L cc a [] hC]
    exact c []
  · exact (hr (σ.1 138) [] hR).mono (Nat.le_refl _) (by show 0 + 14 ≤ 64; decide)
theorem CRt_of (L : LsOK K P k ls) (hk : k ≤ 300) (hP : P k ≤ 300) (c0 : h.1 65 0 = nI ls.length) (cl : ∀ j l, ls[j]? = some l → h.1 66 j = l.1 ∧ h.1 67 j = nI (pC ls j) ∧ h.1 68 j = nI (pC ls j + l.2.1.1.length) ∧ h.1 69 j = nI (pC ls j + l.2.1.1.length + l.2.2.1.length)) (cc : ∀ i, i < (tCl ls).length → h.1 70 i = (tCl ls).getD i 0) (r0 : σ.1 91 79 = nI ls.length) (M : LsM 138 140 σ ls) : CRt σ h := by
  obtain ⟨l1, l2, l3, l4⟩ := L
  have en : nN σ = ls.length := by rw [nN, r0, nI_clamp (by omega)]
  refine ⟨⟨by rw [en]; exact r0, by omega⟩, by rw [en]; exact c0, fun j hj => ?_⟩
  rw [en] at hj
  obtain ⟨l, e⟩ : ∃ l, ls[j]? = some l := ⟨ls[j], List.getElem?_eq_getElem hj⟩
  obtain ⟨x1, x2, x3, x4⟩ := cl j l e
  obtain ⟨y1, y2, y3, y4⟩ := M.2 j l e
  obtain ⟨z1, z2, z3⟩ := l4 j l e
  obtain ⟨sC, sR⟩ := tC_split e
  have nC := congrArg List.length sC
  have nR := congrArg List.length sR
  rw [List.length_append, List.length_append, ccL, List.length_append] at nC
  rw [List.length_append, List.length_append, rcL, List.length_append] at nR
  have nC : (tCl ls).length = pC ls j + (l.2.1.1.length + l.2.2.1.length + (tCl (ls.drop (j + 1))).length) := nC
  have nR : (tRl ls).length = pR ls j + (l.2.1.2.length + l.2.2.2.length + (tRl (ls.drop (j + 1))).length) := nR
  have gC : ∀ i, i < l.2.1.1.length + l.2.2.1.length → h.1 70 (pC ls j + i) = (ccL l).getD i 0 := fun i hi => by
    rw [cc _ (by omega), sC]
    exact getD_mid (by rw [ccL, List.length_append]; exact hi)
  have gR : ∀ i, i < l.2.1.2.length + l.2.2.2.length → σ.1 138 (pR ls j + i) = (rcL l).getD i 0 := fun i hi => by
    rw [M.1 _ (by omega), sR]
    exact getD_mid (by rw [rcL, List.length_append]; exact hi)
  have a1 : ∀ (x y : List Int32) i, i < x.length → (x ++ y).getD i 0 = x.getD i 0 := fun x y i hi => by
    rw [List.getD_eq_getElem?_getD, List.getElem?_append_left hi, ← List.getD_eq_getElem?_getD]
  have a2 : ∀ (x y : List Int32) i, (x ++ y).getD (x.length + i) 0 = y.getD i 0 := fun x y i => by
    rw [List.getD_eq_getElem?_getD, List.getElem?_append_right (by omega), ← List.getD_eq_getElem?_getD, Nat.add_sub_cancel_left]
  refine ⟨pC ls j, pC ls j + l.2.1.1.length, pC ls j + l.2.1.1.length + l.2.2.1.length, pR ls j, pR ls j + l.2.1.2.length, pR ls j + l.2.1.2.length + l.2.2.2.length, ⟨by omega, by omega, by omega, by omega, by omega, by omega⟩, ⟨x2, x3, x4, y2, y3, y4⟩, ⟨by rw [x1, y1], by rw [y1]; exact z1⟩, fun z => ?_, ?_⟩
  · rw [y1] at z
    exact part_eq (b := 0) (z2 z) (fun i hi => by rw [gC i (by omega), ccL, a1 _ _ _ hi]) (fun i hi => by rw [gR i (by omega), rcL, a1 _ _ _ hi])
  · obtain z | z := z3
    · rw [z]; exact Or.inl ⟨rfl, rfl⟩
    · have pos := SPv_pos z
      have p1 : 0 < l.2.2.1.length := pos.1
      have p2 : 0 < l.2.2.2.length := pos.2
      refine Or.inr ⟨by omega, by omega, part_eq (b := 0) (t := True) (cc := l.2.2.1) (rc := l.2.2.2) z (fun i hi => ?_) fun i hi => ?_⟩
      · rw [Nat.add_assoc, gC _ (by omega), ccL, a2]
      · rw [Nat.add_assoc, gR _ (by omega), rcL, a2]
end CRTOF
