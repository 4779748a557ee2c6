/-! rights read: all lines, by the class -/
section LINES2
variable {K V : Nat → Int32} {P B : Nat → Nat} {T : Nat} {h q g : Hp} {d k sz num kind : Nat} {X : String → Hp → Prop} {G : Hp → Prop} {ls : List LI}
def pC (ls : List LI) (j : Nat) : Nat := (tCl (ls.take j)).length
def pR (ls : List LI) (j : Nat) : Nat := (tRl (ls.take j)).length
/-- lines, read well -/
def LsOK (K : Nat → Int32) (P : Nat → Nat) (k : Nat) (ls : List LI) : Prop := (tCl ls).length ≤ k ∧ 2 * (tRl ls).length ≤ 3 * P k ∧ ls.length ≤ 12 ∧ ∀ j l, ls[j]? = some l → (l.1 = 0 ∨ l.1 = 1 ∨ l.1 = 2) ∧ (l.1 = 2 → SPv (pR ls j) 14 False (0, 0, l.2.1)) ∧ (l.2.2 = ([], []) ∨ SPv (pR ls j + l.2.1.2.length) 14 True (0, 0, l.2.2))
/-- as the class holds them -/
def LsC (K V : Nat → Int32) (B : Nat → Nat) (T : Nat) (h : Hp) (k : Nat) (ls : List LI) : Prop := CRd K V B T h k (tCl ls).length ∧ h.1 74 0 = nI ls.length ∧ (∀ i, i < (tCl ls).length → h.1 79 i = (tCl ls).getD i 0) ∧ ∀ j l, ls[j]? = some l → h.1 75 j = l.1 ∧ h.1 76 j = nI (pC ls j) ∧ h.1 77 j = nI (pC ls j + l.2.1.1.length) ∧ h.1 78 j = nI (pC ls j + l.2.1.1.length + l.2.2.1.length)
theorem ccL_m {s : Int32} {a b : List Int32 × List Int32} : ccL (s, a, b) = a.1 ++ b.1 := rfl
theorem rcL_m {s : Int32} {a b : List Int32 × List Int32} : rcL (s, a, b) = a.2 ++ b.2 := rfl
theorem tCl_app (ls : List LI) (x : LI) : tCl (ls ++ [x]) = tCl ls ++ ccL x := by simp [tCl]
theorem tRl_app (ls : List LI) (x : LI) : tRl (ls ++ [x]) = tRl ls ++ rcL x := by simp [tRl]
theorem pC_app {x : LI} {j : Nat} (hj : j ≤ ls.length) : pC (ls ++ [x]) j = pC ls j := by rw [pC, pC, List.take_append_of_le_length hj]
theorem pR_app {x : LI} {j : Nat} (hj : j ≤ ls.length) : pR (ls ++ [x]) j = pR ls j := by rw [pR, pR, List.take_append_of_le_length hj]
theorem pC_len : pC ls ls.length = (tCl ls).length := by rw [pC, List.take_length]
theorem pR_len : pR ls ls.length = (tRl ls).length := by rw [pR, List.take_length]
theorem app_get {x l : LI} {j : Nat} (e : (ls ++ [x])[j]? = some l) : (j < ls.length ∧ ls[j]? = some l) ∨ (j = ls.length ∧ l = x) := by
  by_cases hj : j < ls.length
  · rw [List.getElem?_append_left hj] at e; exact Or.inl ⟨hj, e⟩
  · have hj := Nat.not_lt.mp hj
    rw [List.getElem?_append_right hj] at e
    by_cases h0 : j = ls.length
    · rw [h0, Nat.sub_self] at e
      injection e with e
      exact Or.inr ⟨h0, e.symm⟩
    · rw [List.getElem?_eq_none (by rw [List.length_singleton]; omega)] at e
      exact absurd e (by simp)
theorem li_num {num b : Nat} (h0 : (liR K V k num b).1 = 0) : num < 12 := by
  unfold liR at h0
  by_cases w : K k ≠ 0 ∧ K k ≠ 1 ∧ K k ≠ 2
  · rw [if_pos w] at h0; exact absurd h0 (fl_n (by decide))
  rw [if_neg w] at h0
  by_cases wn : 12 ≤ num
  · rw [if_pos wn] at h0; exact absurd h0 (fl_n (by decide))
  · omega
theorem LsOK_s (Tk : TkP K V P) (o : OKk K k) (L : LsOK K P k ls) (z : (liR K V k ls.length (tRl ls).length).1 = 0) : LsOK K P (liR K V k ls.length (tRl ls).length).2.1 (ls ++ [(K k, (liR K V k ls.length (tRl ls).length).2.2.1, (liR K V k ls.length (tRl ls).length).2.2.2)]) ∧ OKk K (liR K V k ls.length (tRl ls).length).2.1 ∧ k < (liR K V k ls.length (tRl ls).length).2.1 := by
  obtain ⟨l1, l2, l3, l4⟩ := L
  have r := li_ok (num := ls.length) (V := V) Tk o l2
  obtain ⟨r1, r2, r3, r4, r5, r6⟩ := r.2.2.1 z
  have n12 := li_num z
  refine ⟨⟨?_, ?_, ?_, fun j l e => ?_⟩, r.2.1, r1⟩
  · rw [tCl_app, List.length_append, ccL_m, List.length_append]; omega
  · rw [tRl_app, List.length_append, rcL_m, List.length_append]; omega
  · rw [List.length_append, List.length_singleton]; omega
  · obtain ⟨hj, e⟩ | ⟨hj, e⟩ := app_get e
    · rw [pR_app (by omega)]; exact l4 j l e
    · subst e
      rw [hj, pR_app (Nat.le_refl _), pR_len]
      exact ⟨r4, r5, r6⟩
theorem LsC_s (L : LsC K V B T h k ls) (z : (liR K V k ls.length (tRl ls).length).1 = 0) (p : PLn K V B T h k ls.length (tCl ls).length (liR K V k ls.length (tRl ls).length) q) : LsC K V B T q (liR K V k ls.length (tRl ls).length).2.1 (ls ++ [(K k, (liR K V k ls.length (tRl ls).length).2.2.1, (liR K V k ls.length (tRl ls).length).2.2.2)]) := by
  obtain ⟨c, c0, ⟨a1, a2, a3, a4⟩, b1, y1, y2, y0⟩ := p.2.1 z
  obtain ⟨g1, g2, g3, g4⟩ := L
  refine ⟨?_, ?_, fun i hi => ?_, fun j l e => ?_⟩
  · rw [tCl_app, List.length_append, ccL_m, List.length_append, ← Nat.add_assoc]; exact c
  · rw [List.length_append, List.length_singleton]; exact c0
  · rw [tCl_app] at hi ⊢
    rw [List.length_append, ccL_m, List.length_append] at hi
    rw [List.getD_eq_getElem?_getD]
    by_cases i1 : i < (tCl ls).length
    · rw [List.getElem?_append_left i1, ← List.getD_eq_getElem?_getD, y0 i i1]; exact g3 i i1
    · rw [List.getElem?_append_right (by omega), ccL_m]
      by_cases i2 : i - (tCl ls).length < (liR K V k ls.length (tRl ls).length).2.2.1.1.length
      · rw [List.getElem?_append_left i2, ← List.getD_eq_getElem?_getD, ← y1 _ i2, show (tCl ls).length + (i - (tCl ls).length) = i by omega]
      · rw [List.getElem?_append_right (by omega), ← List.getD_eq_getElem?_getD, ← y2 _ (by omega), show (tCl ls).length + (liR K V k ls.length (tRl ls).length).2.2.1.1.length + (i - (tCl ls).length - (liR K V k ls.length (tRl ls).length).2.2.1.1.length) = i by omega]
  · obtain ⟨hj, e⟩ | ⟨hj, e⟩ := app_get e
    · obtain ⟨x1, x2, x3, x4⟩ := b1 j (by omega)
      rw [pC_app (by omega), x1, x2, x3, x4]; exact g4 j l e
    · subst e
      rw [hj, pC_app (Nat.le_refl _), pC_len]
      exact ⟨a1, a2, a3, a4⟩
/-- what reading all leaves -/
def PRd (K V : Nat → Int32) (P B : Nat → Nat) (T : Nat) (h : Hp) (r : Nat × Nat × List LI) (q : Hp) : Prop := FL h q ∧ (r.1 = 0 → LsC K V B T q r.2.1 r.2.2 ∧ LsOK K P r.2.1 r.2.2 ∧ OKk K r.2.1) ∧ (r.1 ≠ 0 → FRd B q r.1 r.2.1)
theorem lp_read (Tk : TkP K V P) : ∀ (f k : Nat) (ls : List LI) (x : Nat) (g : Hp), T < f + k → Std g.2.2 → x ≤ k → LsOK K P k ls → OKk K k → LsC K V B T g k ls → (∀ q, PRd K V P B T g (rdR K V f k ls) q → G q) → E mX6_read 26 0 0 40 [(0, .ref 73), (3, .int (nI x))] [] g (Qv G) X := by
  intro f
  induction f with
  | zero =>
    intro k ls x g hT hS hx L o C hq
    have := okT C.1.1 o
    omega
  | succ f ih =>
    intro k ls x g hT hS hx L o C hq
    have R := C.1.1
    have kT := okT R o
    have T3 := R.2.1
    have ct := C.1.2.2.2.1
    rw [rdR] at hq
    have stop : K k = 16 → G g := fun w => by
      rw [if_pos w] at hq
      exact hq g ⟨Fr.rf, fun _ => ⟨C, L, o⟩, fun y => absurd rfl y⟩
    refine sgX6_read_40 _ (by decide) hS ⟨fun w => stop ?_, fun w => ⟨fun w2 => stop (ct.symm.trans w2), fun w2 => ⟨fun _ => ?_, fun w3 => absurd C.1.2.1 w3⟩⟩⟩
    · have := lpT (x := x) T3 R.1 w (by omega)
      rw [show k = T by omega]; exact R.2.2.1
    · rw [ct] at w2
      rw [if_neg w2] at hq
      refine OKv.up (by decide : 25 ≤ 26) (ok_line (b := (tRl ls).length) Tk hS o L.1 L.2.2.1 L.2.1 C.1 C.2.1 fun q p => ?_)
      have hSq := p.1.sd hS
      rw [nI_1]
      by_cases z : (liR K V k ls.length (tRl ls).length).1 = 0
      · rw [if_neg (fun y => y z)] at hq
        obtain ⟨L2, o2, k2⟩ := LsOK_s Tk o L z
        exact ih _ _ (x + 1) q (by omega) hSq (by omega) L2 o2 (LsC_s C z p) fun q2 p2 => hq q2 ⟨p.1.tr p2.1, p2.2⟩
      · rw [if_pos z] at hq
        have fd := p.2.2 z
        have done : G q := hq q ⟨p.1, fun y => absurd y z, fun _ => fd⟩
        exact sgX6_read_40 _ (by decide) hSq ⟨fun _ => done, fun _ => ⟨fun _ => done, fun _ => ⟨fun w3 => absurd (nI_inj (b := 0) (by have := fd.2.2.2.1.2; omega) (by omega) (fd.2.1.symm.trans w3)) z, fun _ => done⟩⟩⟩
end LINES2
