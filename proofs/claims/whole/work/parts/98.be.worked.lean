/-! codes worked by class and reference -/
section WORK
variable {σ h : Hp} {d : Nat} {X : String → Hp → Prop} {F : Int64 → Hp → Prop}
def StkC (c : Nat) : List Int64 → Hp → Prop
  | [], _ => True
  | a :: t, h => h.2.1 c t.length = a ∧ StkC c t h
theorem StkC.fr {c : Nat} {q : Hp} : ∀ {st : List Int64}, StkC c st h → (∀ i, i < st.length → q.2.1 c i = h.2.1 c i) → StkC c st q
  | [], _, _ => trivial
  | a :: t, s, e => ⟨by rw [e t.length (by simp)]; exact s.1, s.2.fr fun i hi => e i (by simp; omega)⟩
theorem StkC.put {c : Nat} {st : List Int64} {v : Int64} (s : StkC c st h) : StkC c (v :: st) (hL h c st.length v) := ⟨hL_k, s.fr fun i hi => hL_j (by omega)⟩
theorem ok_joinedBy {s : Int32} {a b : Int64} (hd : 1 ≤ d) (hS : Std h.2.2) (hq : F (jnC s a b) h) : OKl d mX7_joinedBy [.ref 65, .int s, .long a, .long b] h F X := by
  rw [jnC] at hq
  refine OKl.up hd (okl_of 0 (by decide +kernel) (Nat.le_of_ble_eq_true rfl) (sgX7_joinedBy_0 _ _ _ (Nat.le_refl _) hS ⟨fun z => ?_, fun z => ?_, fun z => ?_, fun z => ?_, fun z => ?_, fun z => ?_, fun z1 z2 z3 z4 z5 z6 => ?_⟩))
  · rw [if_pos z] at hq; exact hq
  · rw [if_neg (by rw [z]; decide), if_pos z] at hq; exact hq
  · rw [if_neg (by rw [z]; decide), if_neg (by rw [z]; decide), if_pos z] at hq; exact hq
  · rw [if_neg (by rw [z]; decide), if_neg (by rw [z]; decide), if_neg (by rw [z]; decide), if_pos z] at hq
    exact ⟨fun w => by rw [if_pos w] at hq; exact hq, fun w => by rw [if_neg w] at hq; exact hq⟩
  · rw [if_neg (by rw [z]; decide), if_neg (by rw [z]; decide), if_neg (by rw [z]; decide), if_neg (by rw [z]; decide), if_pos z] at hq
    exact ⟨fun w => by rw [if_pos w] at hq; exact hq, fun w => by rw [if_neg w] at hq; exact hq⟩
  · rw [if_neg (by rw [z]; decide), if_neg (by rw [z]; decide), if_neg (by rw [z]; decide), if_neg (by rw [z]; decide), if_neg (by rw [z]; decide), if_pos z] at hq
    exact ⟨fun w => by rw [if_pos w] at hq; exact hq, fun w => by rw [if_neg w] at hq; exact hq⟩
  · rw [if_neg z1, if_neg z2, if_neg z3, if_neg z4, if_neg z5, if_neg z6] at hq
    exact ⟨fun w => by rw [if_pos w] at hq; exact hq, fun w => by rw [if_neg w] at hq; exact hq⟩
theorem nm_in {s : Int32} (h1 : ¬ s < -7) (h2 : s < 0) : vp_in ((-1 : Int32) - s) 7 := by
  have e7 : (-7 : Int32).toInt = -7 := by decide
  have e1 : (-1 : Int32).toInt = -1 := by decide
  have e0 : (0 : Int32).toInt = 0 := by decide
  rw [fa_lt] at h1 h2
  have e : ((-1 : Int32) - s).toInt = -1 - s.toInt := by
    rw [fb_subI (by omega) (by omega), e1]
  have h0 : 0 ≤ (-1 : Int32) - s := by rw [fa_le]; omega
  obtain ⟨j, hj, ej⟩ := nI_nat h0
  have : ((-1 : Int32) - s).toInt = j := by rw [ej, nI_toInt hj]
  rw [ej]; exact vin (by omega)
theorem nI_s1 (m : Nat) : nI (m + 1) - (1 : Int32) = nI m := nI_m1 m
theorem ok_work {a b : Nat} {v : Int64} (hd : 2 ≤ d) (hS : Std h.2.2) (hab : a ≤ b) (hb' : b ≤ 300) (hr : runC (h.2.1 71) (h.1 70) a (b - a) [] = [v]) (hq : ∀ q, Fr [72] [] h q → F v q) : OKl d mX7_work [.ref 65, .int (nI a), .int (nI b)] h F X := by
  have go : ∀ (n k : Nat) (st : List Int64) (q : Hp), k + n = b → st.length ≤ k → Fr [72] [] h q → StkC 72 st q → runC (h.2.1 71) (h.1 70) k n st = [v] → E mX7_work 1 0 0 5 [(0, .ref 65), (2, .int (nI b)), (3, .int (nI st.length)), (4, .int (nI k))] [] q (Ql F) X := by
    intro n
    induction n with
    | zero =>
      intro k st q e hl f S r
      have : k = b := by omega
      subst this
      have r : st = [v] := r
      subst r
      have e0 : q.2.1 72 0 = v := S.1
      have s149 : E mX7_work 1 0 0 149 [(0, .ref 65), (3, .int (nI 1))] [] q (Ql F) X := by
        refine sgX7_work_149 _ (Nat.le_refl _) (f.sd hS) ⟨fun z => absurd z (by decide), fun _ => ?_⟩
        rw [e0]; exact hq q f
      exact sgX7_work_5 _ _ _ (Nat.le_refl _) (f.sd hS) ⟨fun _ => s149, fun z => absurd (Int32.le_refl _) z⟩
    | succ n ih =>
      intro k st q e hl f S r
      have hk : k < b := by omega
      have r : runC (h.2.1 71) (h.1 70) (k + 1) n (stC (h.2.1 71) (h.1 70 k) st) = [v] := r
      have e70 : q.1 70 k = h.1 70 k := f.i 70 k
      have e71 : ∀ j, q.2.1 71 j = h.2.1 71 j := fun j => f.l 71 j
      have hS' := f.sd hS
      have nx : ∀ (st' : List Int64) (q' : Hp), stC (h.2.1 71) (h.1 70 k) st = st' → st'.length ≤ k + 1 → Fr [72] [] h q' → StkC 72 st' q' → E mX7_work 1 0 0 143 [(0, .ref 65), (2, .int (nI b)), (3, .int (nI st'.length)), (4, .int (nI k))] [] q' (Ql F) X := fun st' q' es hl' f' S' => by
        refine sgX7_work_143 _ _ _ (Nat.le_refl _) (f'.sd hS) ?_
        rw [nI_1]
        rw [es] at r
        exact ih (k + 1) st' q' (by omega) hl' f' S' r
      refine sgX7_work_5 _ _ _ (Nat.le_refl _) hS' ⟨fun z => absurd z (nI_ge hk (by omega)), fun _ => ⟨fun z => absurd z (nI_ge (a := k) (b := 300) (by omega) (by omega)), fun _ => ?_⟩⟩
      rw [nI_clamp (by omega), e70]
      refine ⟨vin (by omega), fun z => ?_, fun z => ⟨fun z2 => absurd z2 (nI_ge (a := st.length) (b := 300) (by omega) (by omega)), fun _ => ?_⟩⟩
      · have es : stC (h.2.1 71) (h.1 70 k) st = opC (h.1 70 k) st := by rw [stC, if_pos z]
        rw [es] at nx
        cases st with
        | nil =>
          have s107 : E mX7_work 1 0 0 107 [(0, .ref 65), (2, .int (nI b)), (3, .int (nI 0)), (4, .int (nI k)), (5, .int (h.1 70 k))] [] q (Ql F) X := sgX7_work_107 _ _ _ _ (Nat.le_refl _) hS' ⟨fun _ => nx [] q rfl (Nat.zero_le _) f trivial, fun w => absurd (show nI 0 < (2 : Int32) by decide) w⟩
          exact sgX7_work_74 _ _ _ _ (Nat.le_refl _) hS' ⟨fun _ => ⟨fun _ => s107, fun w => absurd (show nI 0 < (1 : Int32) by decide) w⟩, fun _ => s107⟩
        | cons w t =>
          cases t with
          | nil =>
            have s107 : h.1 70 k ≠ -22 → E mX7_work 1 0 0 107 [(0, .ref 65), (2, .int (nI b)), (3, .int (nI 1)), (4, .int (nI k)), (5, .int (h.1 70 k))] [] q (Ql F) X := fun ne => sgX7_work_107 _ _ _ _ (Nat.le_refl _) hS' ⟨fun _ => nx [w] q (by show (if h.1 70 k = -22 then [1 - w] else [w]) = [w]; rw [if_neg ne]) (by simp) f S, fun w2 => absurd (show nI 1 < (2 : Int32) by decide) w2⟩
            refine sgX7_work_74 _ _ _ _ (Nat.le_refl _) hS' ⟨fun z2 => ⟨fun w2 => absurd w2 (show ¬ nI 1 < (1 : Int32) by decide), fun _ => ?_⟩, s107⟩
            show vp_in (nI (0 + 1) - (1 : Int32)) 300 ∧ (vp_in (nI (0 + 1) - (1 : Int32)) 300 ∧ E mX7_work 1 0 0 143 [(0, .ref 65), (2, .int (nI b)), (3, .int (nI 1)), (4, .int (nI k))] [] (hL q 72 (nI (0 + 1) - (1 : Int32)).toNatClampNeg ((1 : Int64) - (q.2.1 72 (nI (0 + 1) - (1 : Int32)).toNatClampNeg))) (Ql F) X)
            have e0 : q.2.1 72 0 = w := S.1
            rw [nI_s1, nI_clamp (by omega), e0]
            exact ⟨vin (by omega), vin (by omega), nx [1 - w] _ (by show (if h.1 70 k = -22 then [1 - w] else [w]) = _; rw [if_pos z2]) (by simp) (f.tr Fr.pL) ⟨hL_k, trivial⟩⟩
          | cons u t =>
            have e0 : q.2.1 72 (t.length + 1) = w := S.1
            have e1 : q.2.1 72 t.length = u := S.2.1
            have hl : t.length + 1 + 1 ≤ k := hl
            have em1 : nI (t.length + 1 + 1) + (-1 : Int32) = nI (t.length + 1) := pk_m1 _
            have s107 : h.1 70 k ≠ -22 → E mX7_work 1 0 0 107 [(0, .ref 65), (2, .int (nI b)), (3, .int (nI (t.length + 1 + 1))), (4, .int (nI k)), (5, .int (h.1 70 k))] [] q (Ql F) X := fun ne => by
              refine sgX7_work_107 _ _ _ _ (Nat.le_refl _) hS' ⟨fun w2 => absurd w2 (nI_nlt (a := t.length + 1 + 1) (b := 2) (by omega) (by omega)), fun _ => ?_⟩
              rw [em1, nI_s1, nI_clamp (by omega), nI_clamp (by omega), e0, e1]
              refine ⟨vin (by omega), vin (by omega), ok_joinedBy (by omega) hS' ⟨vin (by omega), ?_⟩⟩
              exact nx (jnC (h.1 70 k) u w :: t) _ (by show (if h.1 70 k = -22 then (1 - w) :: u :: t else jnC (h.1 70 k) u w :: t) = _; rw [if_neg ne]) (by simp; omega) (f.tr Fr.pL) (StkC.put S.2.2)
            refine sgX7_work_74 _ _ _ _ (Nat.le_refl _) hS' ⟨fun z2 => ⟨fun w2 => absurd w2 (nI_nlt (a := t.length + 1 + 1) (b := 1) (by omega) (by omega)), fun _ => ?_⟩, s107⟩
            show vp_in (nI (t.length + 1 + 1) - (1 : Int32)) 300 ∧ (vp_in (nI (t.length + 1 + 1) - (1 : Int32)) 300 ∧ E mX7_work 1 0 0 143 [(0, .ref 65), (2, .int (nI b)), (3, .int (nI (t.length + 1 + 1))), (4, .int (nI k))] [] (hL q 72 (nI (t.length + 1 + 1) - (1 : Int32)).toNatClampNeg ((1 : Int64) - (q.2.1 72 (nI (t.length + 1 + 1) - (1 : Int32)).toNatClampNeg))) (Ql F) X)
            rw [nI_s1, nI_clamp (by omega), e0]
            exact ⟨vin (by omega), vin (by omega), nx ((1 - w) :: u :: t) _ (by show (if h.1 70 k = -22 then (1 - w) :: u :: t else jnC (h.1 70 k) u w :: t) = _; rw [if_pos z2]) (by simp; omega) (f.tr Fr.pL) (StkC.put (st := u :: t) S.2)⟩
      · have push : ∀ w, stC (h.2.1 71) (h.1 70 k) st = w :: st → E mX7_work 1 0 0 67 [(0, .ref 65), (2, .int (nI b)), (3, .int (nI st.length)), (4, .int (nI k))] [.long w, .int (nI st.length), .ref 72] q (Ql F) X := fun w es => by
          refine sgX7_work_67 _ _ _ _ _ (Nat.le_refl _) hS' ?_
          rw [nI_clamp (by omega), nI_1]
          exact ⟨vin (by omega), nx (w :: st) _ es (by simp; omega) (f.tr Fr.pL) S.put⟩
        refine ⟨fun z2 => ?_, fun z2 => push _ (by rw [stC, if_neg z, if_neg z2])⟩
        rw [e71]
        exact ⟨nm_in z z2, push _ (by rw [stC, if_neg z, if_pos z2])⟩
  exact OKl.up hd (okl_of 1 (by decide +kernel) (Nat.le_of_ble_eq_true rfl) (sgX7_work_0 _ _ (Nat.le_refl _) hS (go (b - a) a [] h (by omega) (Nat.zero_le _) Fr.rf trivial hr)))
theorem ok_two {c : Int32} {x y : Int64} (hd : 1 ≤ d) (hS : Std h.2.2) (hq : F (twR c x y) h) : OKl d mX12_two [.int c, .long x, .long y] h F X := by
  rw [twR] at hq
  refine OKl.up hd (okl_of 0 (by decide +kernel) (Nat.le_of_ble_eq_true rfl) (sgX12_two_0 _ _ _ (Nat.le_refl _) hS ⟨fun z => ?_, fun z => ?_, fun z => ?_, fun z => ?_, fun z => ?_, fun z1 z2 z3 z4 z5 => ?_⟩))
  · rw [if_pos z] at hq; exact hq
  · rw [if_neg (by rw [z]; decide), if_pos z] at hq; exact hq
  · rw [if_neg (by rw [z]; decide), if_neg (by rw [z]; decide), if_pos z] at hq; exact hq
  · rw [if_neg (by rw [z]; decide), if_neg (by rw [z]; decide), if_neg (by rw [z]; decide), if_pos z] at hq
    exact ⟨fun w => by rw [if_pos w] at hq; exact hq, fun w => by rw [if_neg w] at hq; exact hq⟩
  · rw [if_neg (by rw [z]; decide), if_neg (by rw [z]; decide), if_neg (by rw [z]; decide), if_neg (by rw [z]; decide), if_pos z] at hq
    exact ⟨fun w => by rw [if_pos w] at hq; exact hq, fun w => by rw [if_neg w] at hq; exact hq⟩
  · rw [if_neg z1, if_neg z2, if_neg z3, if_neg z4, if_neg z5] at hq
    exact ⟨fun w => by rw [if_pos w] at hq; exact hq, fun w => by rw [if_neg w] at hq; exact hq⟩
theorem ok_worked {a e n : Nat} {v : Int64} (hd : 2 ≤ d) (hS : Std h.2.2) (he : e ≤ 500) (hr : OkR (h.2.1 141) (h.1 138) e 64 n (a, []) (e, [v])) (hq : ∀ q, Fr [142] [] h q → F v q) : OKl d mX12_worked [.ref 91, .int (nI a), .int (nI e)] h F X := by
  have go : ∀ (n : Nat) (s : SR2) (q : Hp), s.2.length ≤ 64 → Fr [142] [] h q → StkC 142 s.2 q → OkR (h.2.1 141) (h.1 138) e 64 n s (e, [v]) → E mX12_worked 1 0 0 5 [(0, .ref 91), (2, .int (nI e)), (3, .int (nI s.2.length)), (4, .int (nI s.1))] [] q (Ql F) X := by
    intro n
    induction n with
    | zero =>
      intro s q hl f S r
      have r : s = (e, [v]) := r
      subst r
      have e0 : q.2.1 142 0 = v := S.1
      refine sgX12_worked_5 _ _ _ (Nat.le_refl _) (f.sd hS) ⟨fun _ => ?_, fun z => absurd (Int32.le_refl _) z⟩
      rw [e0]; exact hq q f
    | succ n ih =>
      intro s q hl f S r
      obtain ⟨⟨hk, v1, v2, v3, v4, v5⟩, r⟩ := r
      obtain ⟨k, st⟩ := s
      have hk : k < e := hk
      have hl : st.length ≤ 64 := hl
      have S : StkC 142 st q := S
      have e138 : ∀ j, q.1 138 j = h.1 138 j := fun j => f.i 138 j
      have e141 : ∀ j, q.2.1 141 j = h.2.1 141 j := fun j => f.l 141 j
      have hS' := f.sd hS
      have nx : ∀ (k' : Nat) (st' : List Int64) (q' : Hp), stR (h.2.1 141) (h.1 138) (k, st) = (k', st') → st'.length ≤ 64 → Fr [142] [] h q' → StkC 142 st' q' → E mX12_worked 1 0 0 225 [(0, .ref 91), (2, .int (nI e)), (3, .int (nI st'.length)), (4, .int (nI k'))] [] q' (Ql F) X := fun k' st' q' es hl' f' S' => by
        refine sgX12_worked_225 _ _ _ (Nat.le_refl _) (f'.sd hS) ?_
        rw [es] at r
        exact ih (k', st') q' hl' f' S' r
      have v1 : 20 ≤ h.1 138 k → (∃ j, j < 7 ∧ h.1 138 k = nI (20 + j)) ∧ st.length < 64 := v1
      have v2 : h.1 138 k = 0 → k + 1 < e ∧ st.length < 64 := v2
      have v3 : h.1 138 k = 1 ∨ h.1 138 k = 2 → k + 1 < e ∧ 1 ≤ st.length ∧ ∃ k', k' ≤ e ∧ h.1 138 (k + 1) = nI k' := v3
      have v4 : h.1 138 k = 3 → 1 ≤ st.length := v4
      have v5 : ¬ 20 ≤ h.1 138 k → h.1 138 k ≠ 0 → h.1 138 k ≠ 1 → h.1 138 k ≠ 2 → h.1 138 k ≠ 3 → 2 ≤ st.length := v5
      refine sgX12_worked_5 _ _ _ (Nat.le_refl _) hS' ⟨fun z => absurd z (nI_ge hk (by omega)), fun _ => ?_⟩
      show vp_in (nI k) 500 ∧ (((q.1 138 (nI k).toNatClampNeg) < 20 → _) ∧ (¬ (q.1 138 (nI k).toNatClampNeg) < 20 → _))
      rw [nI_clamp (by omega), nI_1, e138 k]
      refine ⟨vin (by omega), fun z => ?_, fun z => ?_⟩
      · have nz : ¬ 20 ≤ h.1 138 k := Int32.not_le.mpr z
        refine ⟨fun z0 => ?_, fun z0 => ?_⟩
        · have w := v2 z0
          have es : stR (h.2.1 141) (h.1 138) (k, st) = (k + 2, (h.1 138 (k + 1)).toInt64 :: st) := by
            simp only [stR]; rw [if_neg nz, if_pos z0]
          show vp_in (nI (k + 1)) 500 ∧ (vp_in (nI st.length) 64 ∧ E mX12_worked 1 0 0 225 [(0, .ref 91), (2, .int (nI e)), (3, .int (nI st.length + 1)), (4, .int (nI (k + 1) + 1))] [] (hL q 142 (nI st.length).toNatClampNeg ((q.1 138 (nI (k + 1)).toNatClampNeg).toInt64)) (Ql F) X)
          rw [nI_clamp (by omega), nI_clamp (by omega), nI_1, nI_1, e138]
          exact ⟨vin (by omega), vin (by omega), nx (k + 2) _ _ es (by simp; omega) (f.tr Fr.pL) S.put⟩
        · have s92 : (h.1 138 k = 1 ∨ h.1 138 k = 2) → E mX12_worked 1 0 0 92 [(0, .ref 91), (2, .int (nI e)), (3, .int (nI st.length)), (4, .int (nI (k + 1))), (5, .int (h.1 138 k))] [] q (Ql F) X := fun c => by
            obtain ⟨w1, w2, k', w3, w4⟩ := v3 c
            cases st with
            | nil => exact absurd w2 (by simp)
            | cons b t =>
              have e0 : q.2.1 142 t.length = b := S.1
              have hl : t.length + 1 ≤ 64 := hl
              have es : stR (h.2.1 141) (h.1 138) (k, b :: t) = (if (decide (b = 0)) = decide (h.1 138 k = 1) then (k + 2, t) else (k', b :: t)) := by
                simp only [stR]
                rw [if_neg nz, if_neg z0, w4, nI_clamp (by omega)]
                obtain c | c := c
                · rw [if_pos c, decide_eq_true c]
                  by_cases y : b = 0
                  · rw [if_pos y, decide_eq_true y, if_pos rfl]
                  · rw [if_neg y, decide_eq_false y, if_neg (by decide)]
                · rw [if_neg (by rw [c]; decide), if_pos c, decide_eq_false (show ¬ h.1 138 k = 1 by rw [c]; decide)]
                  by_cases y : b = 0
                  · rw [if_pos y, decide_eq_true y, if_neg (by decide)]
                  · rw [if_neg y, decide_eq_false y, if_pos rfl]
              have s129 : ∀ j : Bool, j = !decide ((decide (b = 0)) = decide (h.1 138 k = 1)) → E mX12_worked 1 0 0 129 [(0, .ref 91), (2, .int (nI e)), (3, .int (nI (t.length + 1))), (4, .int (nI (k + 1)))] [.int (bI j)] q (Ql F) X := fun j hj => by
                have s142 : ∀ w : Int32, w = (if j then 0 else 1) → E mX12_worked 1 0 0 142 [(0, .ref 91), (2, .int (nI e)), (4, .int (nI (k + 1))), (6, .int (bI j))] [.int w, .int (nI (t.length + 1))] q (Ql F) X := fun w hw => by
                  refine sgX12_worked_142 _ _ _ _ _ (Nat.le_refl _) hS' ⟨fun y => ?_, fun y => ?_⟩
                  · have jf := bI_0.mp y
                    rw [jf] at hw hj
                    have hw : w = 1 := hw
                    have hc : (decide (b = 0)) = decide (h.1 138 k = 1) := by
                      have := hj.symm
                      rw [Bool.not_eq_false', decide_eq_true_eq] at this
                      exact this
                    rw [if_pos hc] at es
                    rw [hw, nI_s1, nI_1]
                    exact sgX12_worked_163 _ _ _ (Nat.le_refl _) hS' (nx (k + 2) t q es (by omega) f S.2)
                  · have jt := bI_n0.mp y
                    rw [jt] at hw hj
                    have hw : w = 0 := hw
                    have hc : ¬ (decide (b = 0)) = decide (h.1 138 k = 1) := by
                      have := hj.symm
                      rw [Bool.not_eq_true', decide_eq_false_iff_not] at this
                      exact this
                    rw [if_neg hc] at es
                    rw [hw, Int32.sub_zero, nI_clamp (by omega), e138, w4]
                    exact ⟨vin (by omega), sgX12_worked_163 _ _ _ (Nat.le_refl _) hS' (nx k' (b :: t) q es hl f S)⟩
                exact sgX12_worked_129 _ _ _ _ (Nat.le_refl _) hS' ⟨fun y => s142 1 (by rw [bI_0.mp y]; rfl), fun y => s142 0 (by rw [bI_n0.mp y]; rfl)⟩
              have s121 : ∀ j i : Bool, j = (!decide (b = 0)) → i = decide (h.1 138 k = 1) → E mX12_worked 1 0 0 121 [(0, .ref 91), (2, .int (nI e)), (3, .int (nI (t.length + 1))), (4, .int (nI (k + 1)))] [.int (bI i), .int (bI j)] q (Ql F) X := fun j i hj hi => by
                refine sgX12_worked_121 _ _ _ _ _ (Nat.le_refl _) hS' ⟨fun y => s129 true ?_, fun y => s129 false ?_⟩
                · have := bI_inj.mp y
                  rw [hj, hi] at this
                  have ne : ¬ (decide (b = 0)) = decide (h.1 138 k = 1) := fun v => by rw [v] at this; revert this; cases decide (h.1 138 k = 1) <;> decide
                  rw [decide_eq_false ne]; rfl
                · have : ¬ (!decide (b = 0)) = decide (h.1 138 k = 1) := fun v => y (bI_inj.mpr (by rw [hj, hi]; exact v))
                  have eq : (decide (b = 0)) = decide (h.1 138 k = 1) := by revert this; cases decide (b = 0) <;> cases decide (h.1 138 k = 1) <;> decide
                  rw [decide_eq_true eq]; rfl
              have s110 : ∀ j : Bool, j = (!decide (b = 0)) → E mX12_worked 1 0 0 110 [(0, .ref 91), (2, .int (nI e)), (3, .int (nI (t.length + 1))), (4, .int (nI (k + 1))), (5, .int (h.1 138 k))] [.int (bI j)] q (Ql F) X := fun j hj => by
                exact sgX12_worked_110 _ _ _ _ _ (Nat.le_refl _) hS' ⟨fun y => s121 j true hj (decide_eq_true y).symm, fun y => s121 j false hj (decide_eq_false y).symm⟩
              refine sgX12_worked_92 _ _ _ _ (Nat.le_refl _) hS' ?_
              show vp_in (nI (t.length + 1) - (1 : Int32)) 64 ∧ (((q.2.1 142 (nI (t.length + 1) - (1 : Int32)).toNatClampNeg) = 0 → _) ∧ (¬ (q.2.1 142 (nI (t.length + 1) - (1 : Int32)).toNatClampNeg) = 0 → _))
              rw [nI_s1, nI_clamp (by omega), e0]
              exact ⟨vin (by omega), fun y => s110 false (by rw [decide_eq_true y]; rfl), fun y => s110 true (by rw [decide_eq_false y]; rfl)⟩
          refine ⟨fun z1 => s92 (Or.inl z1), fun z1 => ⟨fun z2 => s92 (Or.inr z2), fun z2 => ⟨fun z3 => ?_, fun z3 => ?_⟩⟩⟩
          · have w := v4 z3
            cases st with
            | nil => exact absurd w (by simp)
            | cons b t =>
              have e0 : q.2.1 142 t.length = b := S.1
              have hl : t.length + 1 ≤ 64 := hl
              have es : stR (h.2.1 141) (h.1 138) (k, b :: t) = (k + 1, (1 - b) :: t) := by
                simp only [stR]; rw [if_neg nz, if_neg z0, if_neg z1, if_neg z2, if_pos z3]
              show vp_in (nI (t.length + 1) - (1 : Int32)) 64 ∧ (vp_in (nI (t.length + 1) - (1 : Int32)) 64 ∧ E mX12_worked 1 0 0 225 [(0, .ref 91), (2, .int (nI e)), (3, .int (nI (t.length + 1))), (4, .int (nI (k + 1)))] [] (hL q 142 (nI (t.length + 1) - (1 : Int32)).toNatClampNeg ((1 : Int64) - (q.2.1 142 (nI (t.length + 1) - (1 : Int32)).toNatClampNeg))) (Ql F) X)
              rw [nI_s1, nI_clamp (by omega), e0]
              exact ⟨vin (by omega), vin (by omega), nx (k + 1) ((1 - b) :: t) _ es hl (f.tr Fr.pL) (StkC.put S.2)⟩
          · have w := v5 nz z0 z1 z2 z3
            cases st with
            | nil => exact absurd w (by simp)
            | cons b t =>
              cases t with
              | nil => exact absurd w (by simp)
              | cons u t =>
                have e0 : q.2.1 142 (t.length + 1) = b := S.1
                have e1 : q.2.1 142 t.length = u := S.2.1
                have hl : t.length + 1 + 1 ≤ 64 := hl
                have es : stR (h.2.1 141) (h.1 138) (k, b :: u :: t) = (k + 1, twR (h.1 138 k) u b :: t) := by
                  simp only [stR]; rw [if_neg nz, if_neg z0, if_neg z1, if_neg z2, if_neg z3]
                have em1 : nI (t.length + 1 + 1) + (-1 : Int32) = nI (t.length + 1) := pk_m1 _
                show vp_in (nI (t.length + 1 + 1) + (-1 : Int32) - (1 : Int32)) 64 ∧ (vp_in (nI (t.length + 1 + 1) + (-1 : Int32)) 64 ∧ OKl 1 mX12_two [.int (h.1 138 k), .long (q.2.1 142 (nI (t.length + 1 + 1) + (-1 : Int32) - (1 : Int32)).toNatClampNeg), .long (q.2.1 142 (nI (t.length + 1 + 1) + (-1 : Int32)).toNatClampNeg)] q (fun r7 h8 => (vp_in (nI (t.length + 1 + 1) + (-1 : Int32) - (1 : Int32)) 64 ∧ E mX12_worked 1 0 0 225 [(0, .ref 91), (2, .int (nI e)), (3, .int (nI (t.length + 1 + 1) + (-1 : Int32))), (4, .int (nI (k + 1)))] [] (hL h8 142 (nI (t.length + 1 + 1) + (-1 : Int32) - (1 : Int32)).toNatClampNeg r7) (Ql F) X)) X)
                rw [em1, nI_s1, nI_clamp (by omega), nI_clamp (by omega), e0, e1]
                exact ⟨vin (by omega), vin (by omega), ok_two (Nat.le_refl _) hS' ⟨vin (by omega), nx (k + 1) (twR (h.1 138 k) u b :: t) _ es (by simp; omega) (f.tr Fr.pL) (StkC.put S.2.2)⟩⟩
      · have l : 20 ≤ h.1 138 k := Int32.not_lt.mp z
        obtain ⟨⟨j, hj, ej⟩, w⟩ := v1 l
        have es : stR (h.2.1 141) (h.1 138) (k, st) = (k + 1, h.2.1 141 j :: st) := by
          simp only [stR]; rw [if_pos l, ej, lit_20, nI_clamp (by omega)]
        show vp_in (h.1 138 k - (20 : Int32)) 7 ∧ (vp_in (nI st.length) 64 ∧ E mX12_worked 1 0 0 225 [(0, .ref 91), (2, .int (nI e)), (3, .int (nI st.length + 1)), (4, .int (nI (k + 1)))] [] (hL q 142 (nI st.length).toNatClampNeg (q.2.1 141 (h.1 138 k - (20 : Int32)).toNatClampNeg)) (Ql F) X)
        rw [ej, lit_20, nI_clamp (by omega), nI_clamp (by omega), nI_1, e141]
        exact ⟨vin (by omega), vin (by omega), nx (k + 1) _ _ es (by simp; omega) (f.tr Fr.pL) S.put⟩
  exact OKl.up hd (okl_of 1 (by decide +kernel) (Nat.le_of_ble_eq_true rfl) (sgX12_worked_0 _ _ (Nat.le_refl _) hS (go n (a, []) h (Nat.zero_le _) Fr.rf trivial hr)))
end WORK
