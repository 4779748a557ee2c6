/-! a sheet, written -/
section SHEETW
variable {h : Hp} {d S : Nat} {X : String → Hp → Prop} {P Q R : Nat → Nat → Bool} {a m : Nat} {s : Int32}
def at1 (a m k b : Nat) : Bool := decide (k = m) && decide (b = a)
theorem bits_1 {g : Hp} (B : Bits P Q R S g) (ha : a < 64) : Bits (fun k b => P k b || at1 a m k b) Q R S (hL g (S + 1) m ((g.2.1 (S + 1) m) ||| ((1 : Int64) <<< ((nI a).toInt64 &&& 63)))) := fun k hk b => by
  obtain ⟨b1, b2, b3⟩ := B k hk b
  refine ⟨?_, by rw [hL_c (by omega)]; exact b2, by rw [hL_c (by omega)]; exact b3⟩
  show _ = (P k b || at1 a m k b)
  by_cases hkm : k = m
  · subst hkm; rw [hL_k, hb_put ha, b1, at1, decide_eq_true rfl, Bool.true_and]
  · rw [hL_j hkm, b1, at1, decide_eq_false hkm, Bool.false_and, Bool.or_false]
theorem bits_2 {g : Hp} (B : Bits P Q R S g) (ha : a < 64) : Bits P (fun k b => Q k b || at1 a m k b) R S (hL g (S + 2) m ((g.2.1 (S + 2) m) ||| ((1 : Int64) <<< ((nI a).toInt64 &&& 63)))) := fun k hk b => by
  obtain ⟨b1, b2, b3⟩ := B k hk b
  refine ⟨by rw [hL_c (by omega)]; exact b1, ?_, by rw [hL_c (by omega)]; exact b3⟩
  show _ = (Q k b || at1 a m k b)
  by_cases hkm : k = m
  · subst hkm; rw [hL_k, hb_put ha, b2, at1, decide_eq_true rfl, Bool.true_and]
  · rw [hL_j hkm, b2, at1, decide_eq_false hkm, Bool.false_and, Bool.or_false]
theorem bits_3 {g : Hp} (B : Bits P Q R S g) (ha : a < 64) : Bits P Q (fun k b => R k b || at1 a m k b) S (hL g (S + 3) m ((g.2.1 (S + 3) m) ||| ((1 : Int64) <<< ((nI a).toInt64 &&& 63)))) := fun k hk b => by
  obtain ⟨b1, b2, b3⟩ := B k hk b
  refine ⟨by rw [hL_c (by omega)]; exact b1, by rw [hL_c (by omega)]; exact b2, ?_⟩
  show _ = (R k b || at1 a m k b)
  by_cases hkm : k = m
  · subst hkm; rw [hL_k, hb_put ha, b3, at1, decide_eq_true rfl, Bool.true_and]
  · rw [hL_j hkm, b3, at1, decide_eq_false hkm, Bool.false_and, Bool.or_false]
theorem put_84 {F : Hp → Prop} {g : Hp} (sh : ShOK S) (hd : 1 ≤ d) (hS : Std g.2.2) (B : Bits P Q R S g) (ha : a < 60) (hm : m < 16) (fr : Fr [S + 1, S + 2, S + 3] [] h g)
    (hq : ∀ g', Fr [S + 1, S + 2, S + 3] [] h g' → Bits P Q (fun k b => R k b || (decide (s = 3) && at1 a m k b)) S g' → F g') : E mX8_put d 0 0 84 [(0, .ref S), (1, .int (nI a)), (2, .int (nI m)), (3, .int s)] [] g (Qv F) X := by
  refine sgX8_put_84 sh _ _ _ hd hS ⟨fun z => ⟨vin hm, ok_only hd hS ⟨vin hm, ?_⟩⟩, fun z => hq g fr ?_⟩
  · rw [nI_clamp (by omega)]
    have := bits_3 (m := m) B (a := a) (by omega)
    refine hq _ (fr.tr sh_f3) ?_
    rw [decide_eq_true z]; simp only [Bool.true_and]
    exact this
  · rw [decide_eq_false z]; simp only [Bool.false_and, Bool.or_false]
    exact B
theorem put_66 {F : Hp → Prop} {g : Hp} (sh : ShOK S) (hd : 1 ≤ d) (hS : Std g.2.2) (B : Bits P Q R S g) (ha : a < 60) (hm : m < 16) (fr : Fr [S + 1, S + 2, S + 3] [] h g)
    (hq : ∀ g', Fr [S + 1, S + 2, S + 3] [] h g' → Bits P (fun k b => Q k b || (decide (s = 2) && at1 a m k b)) (fun k b => R k b || (decide (s = 3) && at1 a m k b)) S g' → F g') : E mX8_put d 0 0 66 [(0, .ref S), (1, .int (nI a)), (2, .int (nI m)), (3, .int s)] [] g (Qv F) X := by
  refine sgX8_put_66 sh _ _ _ hd hS ⟨fun z => ⟨vin hm, ok_only hd hS ⟨vin hm, ?_⟩⟩, fun z => put_84 sh hd hS B ha hm fr fun g' f' b' => hq g' f' ?_⟩
  · rw [nI_clamp (by omega)]
    have b1 := bits_2 (m := m) B (a := a) (by omega)
    have f1 := fr.tr (sh_f2 (S := S) (g := g) (j := m) (v := (g.2.1 (S + 2) m) ||| ((1 : Int64) <<< ((nI a).toInt64 &&& 63))))
    refine put_84 sh hd hS b1 ha hm f1 fun g' f' b' => hq g' f' ?_
    rw [decide_eq_true z]; simp only [Bool.true_and]
    exact b'
  · rw [decide_eq_false z]; simp only [Bool.false_and, Bool.or_false]
    exact b'
theorem put_53 {F : Hp → Prop} {g : Hp} (sh : ShOK S) (hd : 1 ≤ d) (hS : Std g.2.2) (B : Bits P Q R S g) (ha : a < 60) (hm : m < 16) (fr : Fr [S + 1, S + 2, S + 3] [] h g)
    (hq : ∀ g', Fr [S + 1, S + 2, S + 3] [] h g' → Bits (fun k b => P k b || at1 a m k b) (fun k b => Q k b || (decide (s = 2) && at1 a m k b)) (fun k b => R k b || (decide (s = 3) && at1 a m k b)) S g' → F g') : E mX8_put d 0 0 53 [(0, .ref S), (1, .int (nI a)), (2, .int (nI m)), (3, .int s)] [] g (Qv F) X := by
  refine sgX8_put_53 sh _ _ _ hd hS ⟨vin hm, ok_only hd hS ⟨vin hm, ?_⟩⟩
  rw [nI_clamp (by omega)]
  have b1 := bits_1 (m := m) B (a := a) (by omega)
  have f1 := fr.tr (sh_f1 (S := S) (g := g) (j := m) (v := (g.2.1 (S + 1) m) ||| ((1 : Int64) <<< ((nI a).toInt64 &&& 63))))
  exact put_66 sh hd hS b1 ha hm f1 hq
theorem bits_clr (B : Bits P Q R S h) (ha : a < 64) {r : Int64} (hr : r = ((1 : Int64) <<< ((nI a).toInt64 &&& 63)) ^^^ (-1 : Int64)) {g : Hp} (eg : g = hL (hL (hL h (S + 1) m ((h.2.1 (S + 1) m) &&& r)) (S + 2) m (((hL h (S + 1) m ((h.2.1 (S + 1) m) &&& r)).2.1 (S + 2) m) &&& r)) (S + 3) m (((hL (hL h (S + 1) m ((h.2.1 (S + 1) m) &&& r)) (S + 2) m (((hL h (S + 1) m ((h.2.1 (S + 1) m) &&& r)).2.1 (S + 2) m) &&& r)).2.1 (S + 3) m) &&& r)) :
    Bits (fun k b => P k b && !at1 a m k b) (fun k b => Q k b && !at1 a m k b) (fun k b => R k b && !at1 a m k b) S g ∧ Fr [S + 1, S + 2, S + 3] [] h g := by
  refine ⟨fun k hk b => ?_, by rw [eg]; exact Fr.tr (Fr.tr sh_f1 sh_f2) sh_f3⟩
  obtain ⟨b1, b2, b3⟩ := B k hk b
  have e1 : (hL h (S + 1) m ((h.2.1 (S + 1) m) &&& r)).2.1 (S + 2) m = h.2.1 (S + 2) m := hL_c (by omega)
  have e2 : (hL (hL h (S + 1) m ((h.2.1 (S + 1) m) &&& r)) (S + 2) m (((hL h (S + 1) m ((h.2.1 (S + 1) m) &&& r)).2.1 (S + 2) m) &&& r)).2.1 (S + 3) m = h.2.1 (S + 3) m := (hL_c (by omega)).trans (hL_c (by omega))
  rw [eg, e2, e1]
  refine ⟨?_, ?_, ?_⟩
  · show _ = (P k b && !at1 a m k b)
    rw [hL_c (by omega), hL_c (by omega)]
    by_cases hkm : k = m
    · subst hkm; rw [hL_k, hb_rest ha hr, b1, at1, decide_eq_true rfl, Bool.true_and]
    · rw [hL_j hkm, b1, at1, decide_eq_false hkm, Bool.false_and, Bool.not_false, Bool.and_true]
  · show _ = (Q k b && !at1 a m k b)
    rw [hL_c (by omega)]
    by_cases hkm : k = m
    · subst hkm; rw [hL_k, hb_rest ha hr, b2, at1, decide_eq_true rfl, Bool.true_and]
    · rw [hL_j hkm, hL_c (by omega), b2, at1, decide_eq_false hkm, Bool.false_and, Bool.not_false, Bool.and_true]
  · show _ = (R k b && !at1 a m k b)
    by_cases hkm : k = m
    · subst hkm; rw [hL_k, hb_rest ha hr, b3, at1, decide_eq_true rfl, Bool.true_and]
    · rw [hL_j hkm, hL_c (by omega), hL_c (by omega), b3, at1, decide_eq_false hkm, Bool.false_and, Bool.not_false, Bool.and_true]
def upw (w : Nat → Nat → Int32) (a m : Nat) (s : Int32) : Nat → Nat → Int32 := fun b k => if b = a ∧ k = m then s else w b k
theorem ok_put {F : Hp → Prop} {w : Nat → Nat → Int32} (sh : ShOK S) (hd : 2 ≤ d) (hS : Std h.2.2) (B : Shw w S h) (ha : a < 60) (hm : m < 16) (hs : S03 s)
    (hq : ∀ g, Fr [S + 1, S + 2, S + 3] [] h g → Shw (upw w a m s) S g → F g) : OKv d mX8_put [.ref S, .int (nI a), .int (nI m), .int s] h F X := by
  have fin : ∀ (P' : Nat → Nat → Bool) g, Fr [S + 1, S + 2, S + 3] [] h g → (∀ k b, P' k b = (((decide (b < 60) && lkd (w b k)) && !at1 a m k b) || (lkd s && at1 a m k b))) → Bits P' (fun k b => ((decide (b < 60) && decide (w b k = 2)) && !at1 a m k b) || (decide (s = 2) && at1 a m k b)) (fun k b => ((decide (b < 60) && decide (w b k = 3)) && !at1 a m k b) || (decide (s = 3) && at1 a m k b)) S g → F g := by
    intro P' g fr hP b'
    refine hq g fr fun k hk b => ?_
    obtain ⟨b1, b2, b3⟩ := b' k hk b
    rw [b1, b2, b3, hP]
    by_cases hx : b = a ∧ k = m
    · obtain ⟨rfl, rfl⟩ := hx
      simp [upw, at1, ha]
    · have e1 : at1 a m k b = false := by
        rw [at1, ← Bool.decide_and]; exact decide_eq_false (fun z => hx ⟨z.2, z.1⟩)
      simp [upw, e1, hx]
  refine enX8_put sh (nI a) (nI m) s hd hS (ok_only (Nat.le_refl _) hS ⟨vin hm, vin hm, vin hm, vin hm, vin hm, vin hm, ?_⟩)
  rw [nI_clamp (by omega)]
  obtain ⟨B0, f0⟩ := bits_clr (m := m) B (a := a) (by omega) rfl rfl
  refine ⟨fun z => ?_, fun z => ⟨fun z2 => ?_, fun z2 => ?_⟩⟩
  · refine put_53 sh (Nat.le_refl _) (f0.sd hS) B0 ha hm f0 fun g' f' b' => fin _ g' f' (fun k b => ?_) b'
    rw [z]; simp [lkd]
  · refine put_53 sh (Nat.le_refl _) (f0.sd hS) B0 ha hm f0 fun g' f' b' => fin _ g' f' (fun k b => ?_) b'
    rw [z2]; simp [lkd]
  · refine put_66 sh (Nat.le_refl _) (f0.sd hS) B0 ha hm f0 fun g' f' b' => fin _ g' f' (fun k b => ?_) b'
    simp [lkd, z, z2]
end SHEETW
