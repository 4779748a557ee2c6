/-! rights taken over from the draft -/
section COPYR
variable {h q g : Hp} {d m s : Nat} {X : String → Hp → Prop} {F : Int32 → Hp → Prop} {G : Hp → Prop}
def FCp (h q : Hp) : Prop := Fr [66, 67, 68, 69, 70] [(65, 0), (65, 6)] h q
theorem ok_copyFromR (hd : 1 ≤ d) (hS : Std h.2.2) (hm : m ≤ 12) (hs : s ≤ 300) (h0 : h.1 74 0 = nI m) (h6 : h.1 74 6 = nI s) (hq : ∀ q, FCp h q → q.1 65 0 = nI m → (∀ j, j < m → q.1 66 j = h.1 75 j ∧ q.1 67 j = h.1 76 j ∧ q.1 68 j = h.1 77 j ∧ q.1 69 j = h.1 78 j) → (∀ i, i < s → q.1 70 i = h.1 79 i) → G q) : OKv d mX7_copyFrom [.ref 65, .ref 74] h G X := by
  have s82 : ∀ (n i : Nat) (q : Hp), i + n = s → FCp h q → q.1 65 0 = nI m → (∀ j, j < m → q.1 66 j = h.1 75 j ∧ q.1 67 j = h.1 76 j ∧ q.1 68 j = h.1 77 j ∧ q.1 69 j = h.1 78 j) → (∀ j, j < i → q.1 70 j = h.1 79 j) → E mX7_copyFrom 0 0 0 82 [(0, .ref 65), (1, .ref 74), (2, .int (nI i))] [] q (Qv G) X := by
    intro n
    induction n with
    | zero =>
      intro i q e f x0 x1 x2
      have e6 : q.1 74 6 = nI s := by rw [f.i 74 6]; exact h6
      exact sgX7_copyFrom_82 _ (Nat.le_refl _) (f.sd hS) ⟨fun _ => hq q f x0 x1 fun j hj => x2 j (by omega), fun w => absurd (by rw [e6]; exact nI_le (by omega) (by omega)) w⟩
    | succ n ih =>
      intro i q e f x0 x1 x2
      have e6 : q.1 74 6 = nI s := by rw [f.i 74 6]; exact h6
      refine sgX7_copyFrom_82 _ (Nat.le_refl _) (f.sd hS) ⟨fun w => absurd w (by rw [e6]; exact nI_ge (by omega) (by omega)), fun _ => ?_⟩
      rw [nI_clamp (by omega), nI_1]
      refine ⟨vin (by omega), vin (by omega), ih (i + 1) _ (by omega) (Fr.tr f Fr.pI) ?_ (fun j hj => ?_) fun j hj => ?_⟩
      · rw [hI_c (by decide)]; exact x0
      · rw [hI_c (by decide), hI_c (by decide), hI_c (by decide), hI_c (by decide)]; exact x1 j hj
      · by_cases e2 : j = i
        · rw [e2, hI_k, f.i 79]
        · rw [hI_j e2]; exact x2 j (by omega)
  have s10 : ∀ (n i : Nat) (q : Hp), i + n = m → FCp h q → q.1 65 0 = nI m → (∀ j, j < i → q.1 66 j = h.1 75 j ∧ q.1 67 j = h.1 76 j ∧ q.1 68 j = h.1 77 j ∧ q.1 69 j = h.1 78 j) → E mX7_copyFrom 0 0 0 10 [(0, .ref 65), (1, .ref 74), (2, .int (nI i))] [] q (Qv G) X := by
    intro n
    induction n with
    | zero =>
      intro i q e f x0 x1
      have e0 : q.1 74 0 = nI m := by rw [f.i 74 0]; exact h0
      refine sgX7_copyFrom_10 _ (Nat.le_refl _) (f.sd hS) ⟨fun _ => ?_, fun w => absurd (by rw [e0]; exact nI_le (by omega) (by omega)) w⟩
      have f2 : FCp h (hI q 65 6 (q.1 74 6)) := Fr.tr f Fr.pI
      exact s82 s 0 _ (Nat.zero_add _) f2 x0 (fun j hj => x1 j (by omega)) fun j hj => absurd hj (Nat.not_lt_zero _)
    | succ n ih =>
      intro i q e f x0 x1
      have e0 : q.1 74 0 = nI m := by rw [f.i 74 0]; exact h0
      have v : vp_in (nI i) 12 := vin (by omega)
      refine sgX7_copyFrom_10 _ (Nat.le_refl _) (f.sd hS) ⟨fun w => absurd w (by rw [e0]; exact nI_ge (by omega) (by omega)), fun _ => ⟨v, v, v, v, v, v, v, v, ?_⟩⟩
      rw [nI_clamp (by omega), nI_1]
      refine ih (i + 1) _ (by omega) (Fr.tr f (Fr.tr (Fr.tr (Fr.tr Fr.pI Fr.pI) Fr.pI) Fr.pI)) ?_ fun j hj => ?_
      · rw [hI_c (by decide), hI_c (by decide), hI_c (by decide), hI_c (by decide)]; exact x0
      · by_cases e2 : j = i
        · subst e2
          refine ⟨?_, ?_, ?_, ?_⟩
          · rw [hI_c (by decide), hI_c (by decide), hI_c (by decide), hI_k, f.i 75]
          · rw [hI_c (by decide), hI_c (by decide), hI_k, f.i 76]
          · rw [hI_c (by decide), hI_k, f.i 77]
          · rw [hI_k, f.i 78]
        · refine ⟨?_, ?_, ?_, ?_⟩
          · rw [hI_c (by decide), hI_c (by decide), hI_c (by decide), hI_j e2]; exact (x1 j (by omega)).1
          · rw [hI_c (by decide), hI_c (by decide), hI_j e2, hI_c (by decide)]; exact (x1 j (by omega)).2.1
          · rw [hI_c (by decide), hI_j e2, hI_c (by decide), hI_c (by decide)]; exact (x1 j (by omega)).2.2.1
          · rw [hI_j e2, hI_c (by decide), hI_c (by decide), hI_c (by decide)]; exact (x1 j (by omega)).2.2.2
  refine enX7_copyFrom hd hS ?_
  rw [h0]
  have f0 : FCp h (hI h 65 0 (nI m)) := Fr.pI
  exact s10 m 0 _ (Nat.zero_add _) f0 hI_k fun j hj => absurd hj (Nat.not_lt_zero _)
end COPYR
