/-! tokens, by the reference -/
section NEXT
variable {t : Nat → Int32} {n p b e w k T : Nat} {h q g : Hp} {d : Nat} {X : String → Hp → Prop} {F : Int32 → Hp → Prop} {G : Hp → Prop}
def TxM (t : Nat → Int32) (n : Nat) (h : Hp) : Prop := (∀ i, i < 300 → h.1 136 i = t i) ∧ h.1 91 68 = nI n
theorem ok_isLtM {c : Int32} (hd : 1 ≤ d) (hS : Std h.2.2) (hq : F (bI (isLt c)) h) : OKi d mX12_isLetter [.int c] h F X := by
  refine enX12_isLetter _ hd hS ⟨fun w => ?_, fun w => ⟨fun w2 => ?_, fun w2 => ?_⟩⟩
  · rw [isLt, decide_eq_false (Int32.not_le.mpr w)] at hq; exact hq
  · rw [isLt, decide_eq_false (Int32.not_le.mpr w2), Bool.and_false] at hq; exact hq
  · rw [isLt, decide_eq_true (Int32.not_lt.mp w), decide_eq_true (Int32.not_lt.mp w2)] at hq; exact hq
theorem ok_isDgM {c : Int32} (hd : 1 ≤ d) (hS : Std h.2.2) (hq : F (bI (isDg c)) h) : OKi d mX12_isDigit [.int c] h F X := by
  refine enX12_isDigit _ hd hS ⟨fun w => ?_, fun w => ⟨fun w2 => ?_, fun w2 => ?_⟩⟩
  · rw [isDg, decide_eq_false (Int32.not_le.mpr w)] at hq; exact hq
  · rw [isDg, decide_eq_false (Int32.not_le.mpr w2), Bool.and_false] at hq; exact hq
  · rw [isDg, decide_eq_true (Int32.not_lt.mp w), decide_eq_true (Int32.not_lt.mp w2)] at hq; exact hq
theorem ok_isKnX {c : Int32} (hd : 1 ≤ d) (hS : Std h.2.2) (hq : F (bI (isKn c)) h) : OKi d mX12_isKnown [.int c] h F X := by
  have yes : isKn c = true → F 1 h := fun z => by rw [z] at hq; exact hq
  exact enX12_isKnown _ hd hS ⟨fun z => yes (by rw [z]; decide), fun z0 => ⟨fun z => yes (by rw [z]; decide), fun z1 => ⟨fun z => yes (by rw [z]; decide), fun z2 => ⟨fun z => yes (by rw [z]; decide), fun z3 => ⟨fun z => yes (by rw [z]; decide), fun z4 => ⟨fun z => yes (by rw [z]; decide), fun z5 => ⟨fun z => yes (by rw [z]; decide), fun z6 => ⟨fun z => yes (by rw [z]; decide), fun z7 => ⟨fun z => yes (by rw [z]; decide), fun z8 => ⟨fun z => yes (by rw [z]; decide), fun z9 => ⟨fun z => yes (by rw [z]; decide), fun z10 => (by rw [isKn, decide_eq_false z7, decide_eq_false z8, decide_eq_false z6, decide_eq_false z4, decide_eq_false z5, decide_eq_false z0, decide_eq_false z1, decide_eq_false z3, decide_eq_false z2, decide_eq_false z9, decide_eq_false z10] at hq; exact hq)⟩⟩⟩⟩⟩⟩⟩⟩⟩⟩⟩
theorem ok_see (hd : 1 ≤ d) (hS : Std h.2.2) (T : TxM t n h) (hn : n ≤ 300) (hp : p ≤ n) (hq : F (if p < n then t p else 0) h) : OKi d mX12_see [.ref 91, .int (nI p)] h F X := by
  refine enX12_see _ hd hS ?_
  rw [T.2, nI_clamp (by omega)]
  refine ⟨fun w => ?_, fun w => ?_⟩
  · have lt : ¬ p < n := Nat.not_lt.mpr ((nI_leI (by omega) (by omega)).mp w)
    rw [if_neg lt] at hq; exact hq
  · have lt : p < n := Nat.not_le.mp fun y => w (nI_le y (by omega))
    rw [if_pos lt] at hq
    rw [T.1 p (by omega)]
    exact ⟨vin (by omega), hq⟩
def FN (h q : Hp) : Prop := Fr [] [(91, 69), (91, 70), (91, 71), (91, 72)] h q
theorem TxM.fr {L : List Nat} {fs : List (Nat × Nat)} (T : TxM t n h) (f : Fr L fs h q) (hn : ∀ j, inW L fs 136 j = false ∧ inW L fs 91 68 = false := by exact fun _ => ⟨rfl, rfl⟩) : TxM t n q := ⟨fun i hi => by rw [f.i 136 i (hn i).1]; exact T.1 i hi, by rw [f.i 91 68 (hn 0).2]; exact T.2⟩
/-- a token has been read -/
def TkR (t : Nat → Int32) (n : Nat) (q : Hp) (p : Nat) : Prop := q.1 91 69 = nI (tkE t n p) ∧ q.1 91 70 = nI (bg t n p) ∧ q.1 91 71 = ty (tkK t n p) ∧ (tkK t n p = 15 → q.1 91 72 = tkV t n p) ∧ (ty (tkK t n p) = 3 → q.1 91 72 = tkK t n p)
theorem ty_w {j : Nat} (hj : j < 15) : ty (nI j) = 1 := by
  have : ∀ j, j < 15 → ty (nI j) = 1 := by decide +kernel
  exact this j hj
theorem ty_kn {c : Int32} (h : isKn c = true) : ty c = 3 ∧ c ≠ 15 := by
  simp only [isKn, Bool.or_eq_true, decide_eq_true_eq] at h
  obtain ((((((((((h | h) | h) | h) | h) | h) | h) | h) | h) | h) | h) := h <;> subst h <;> exact ⟨by decide, by decide⟩
theorem ok_nextX (hd : 2 ≤ d) (hS : Std h.2.2) (TX : TxM t n h) (hn : n ≤ 300) (hp : p ≤ n) (ha : h.1 91 69 = nI p) (hq : ∀ q, FN h q → TkR t n q p → G q) : OKv d mX12_next [.ref 91] h G X := by
  -- at the token
  have bn : bg t n p ≤ n := rnE_le hp
  have s52 : ∀ q, FN h q → q.1 91 69 = nI (bg t n p) → E mX12_next 1 0 0 52 [(0, .ref 91)] [] q (Qv G) X := fun q f a => by
    have Tq := TX.fr f
    have hSq := f.sd hS
    refine sgX12_next_52 (Nat.le_refl _) hSq ?_
    rw [a, Tq.2, nI_clamp (by omega)]
    refine ⟨fun w => ?_, fun w => ?_⟩
    · have lt := (nI_ltI (by omega) (by omega)).mp w
      rw [Tq.1 _ (by omega)]
      have f1 : FN h (hI q 91 70 (nI (bg t n p))) := Fr.tr f Fr.pI
      have a1 : (hI q 91 70 (nI (bg t n p))).1 91 69 = nI (bg t n p) := a
      have b1 : (hI q 91 70 (nI (bg t n p))).1 91 70 = nI (bg t n p) := hI_k
      have t1 : TxM t n (hI q 91 70 (nI (bg t n p))) := ⟨Tq.1, Tq.2⟩
      generalize hI q 91 70 (nI (bg t n p)) = q1 at f1 a1 b1 t1
      have hS1 := f1.sd hS
      refine ⟨vin (by omega), ok_isLtM (by omega) hS1 ⟨fun w1 => ?_, fun w1 => ?_⟩⟩
      · have w1 := bI_0.mp w1
        refine ok_isDgM (by omega) hS1 ⟨fun w2 => ?_, fun w2 => ?_⟩
        · have w2 := bI_0.mp w2
          have f2 : FN h (hI q1 91 72 (t (bg t n p))) := Fr.tr f1 Fr.pI
          have eE : tkE t n p = bg t n p + 1 := by
            unfold tkE; rw [if_neg (by omega), w1, w2, if_neg (by decide), if_neg (by decide)]
          have eK : tkK t n p = if isKn (t (bg t n p)) = true then t (bg t n p) else 17 := by
            unfold tkK; rw [if_neg (by omega), w1, w2, if_neg (by decide), if_neg (by decide)]
          have fin : ∀ x, x = ty (tkK t n p) → tkK t n p ≠ 15 → (ty (tkK t n p) = 3 → t (bg t n p) = tkK t n p) → E mX12_next 1 0 0 255 [(0, .ref 91)] [.int x, .ref 91] (hI q1 91 72 (t (bg t n p))) (Qv G) X := fun x ex n15 v3 => by
            refine sgX12_next_255 _ (Nat.le_refl _) (f2.sd hS) (hq _ (Fr.tr f2 (Fr.tr Fr.pI Fr.pI)) ⟨?_, ?_, ?_, fun z => absurd z n15, fun z => ?_⟩)
            · have : (hI (hI q1 91 72 (t (bg t n p))) 91 71 x).1 91 69 = nI (bg t n p) := a1
              show (hI q1 91 72 (t (bg t n p))).1 91 69 + 1 = _
              rw [eE, show (hI q1 91 72 (t (bg t n p))).1 91 69 = nI (bg t n p) from a1, nI_1]
            · exact b1
            · exact ex
            · exact v3 z
          refine ok_isKnX (by omega) (f2.sd hS) ⟨fun w3 => ?_, fun w3 => ?_⟩
          · have w3 := bI_0.mp w3
            have e17 : tkK t n p = 17 := by rw [eK, w3]; rfl
            exact fin 4 (by rw [e17]; rfl) (by rw [e17]; decide) (fun z => by rw [e17] at z; exact absurd z (by decide))
          · have w3 := bI_n0.mp w3
            have ec : tkK t n p = t (bg t n p) := by rw [eK, if_pos w3]
            have kn := ty_kn w3
            exact fin 3 (by rw [ec]; exact kn.1.symm) (by rw [ec]; exact kn.2) fun _ => ec.symm
        · have w2 := bI_n0.mp w2
          have eE : tkE t n p = rnE isDg t n (bg t n p) := by
            unfold tkE; rw [if_neg (by omega), w1, w2, if_neg (by decide), if_pos rfl]
          have eK : tkK t n p = if rnE isDg t n (bg t n p) - bg t n p ≤ 5 then 15 else 17 := by
            unfold tkK; rw [if_neg (by omega), w1, w2, if_neg (by decide), if_pos rfl]
          have en : rnE isDg t n (bg t n p) ≤ n := rnE_le bn
          have s141 : ∀ (m r j : Nat) (q2 : Hp), n - r = m → r = bg t n p + j → r ≤ n → rnE isDg t n r = rnE isDg t n (bg t n p) → FN h q2 → q2.1 91 69 = nI r → q2.1 91 70 = nI (bg t n p) → q2.1 91 72 = dgV t (bg t n p) j → E mX12_next 1 0 0 141 [(0, .ref 91)] [] q2 (Qv G) X := by
            intro m
            induction m with
            | zero =>
              intro r j q2 e1 rj rn' ep f2 x9 x0 x2
              have Tq2 := TX.fr f2
              have : rnE isDg t n r = r := rnE_e (by omega)
              have e2 : r = rnE isDg t n (bg t n p) := this.symm.trans ep
              refine sgX12_next_141 (Nat.le_refl _) (f2.sd hS) ?_
              rw [x9]
              refine ok_see (by omega) (f2.sd hS) Tq2 hn (by omega) ?_
              rw [if_neg (by omega)]
              refine ok_isDgM (by omega) (f2.sd hS) ⟨fun _ => ?_, fun z => absurd rfl z⟩
              rw [x9, x0, pk_sub (by omega), lit_nI 5]
              have fin : ∀ x, x = ty (tkK t n p) → E mX12_next 1 0 0 231 [] [.int x, .ref 91] q2 (Qv G) X := fun x ex => sgX12_next_231 _ (Nat.le_refl _) (f2.sd hS) (hq _ (Fr.tr f2 Fr.pI) ⟨by rw [eE, ← e2]; exact x9, x0, ex, fun _ => by
                show q2.1 91 72 = _
                rw [x2]; unfold tkV; rw [← e2, rj, Nat.add_sub_cancel_left], fun z => by
                rw [eK] at z; split at z <;> exact absurd z (by decide)⟩)
              exact ⟨fun z => fin 2 (by rw [eK, if_pos (by have := (nI_leI (by omega) (by omega)).mp z; omega)]; rfl), fun z => fin 4 (by rw [eK, if_neg (fun y => z (nI_le (by omega) (by omega)))]; rfl)⟩
            | succ m ih =>
              intro r j q2 e1 rj rn' ep f2 x9 x0 x2
              have Tq2 := TX.fr f2
              have lt2 : r < n := by omega
              refine sgX12_next_141 (Nat.le_refl _) (f2.sd hS) ?_
              rw [x9]
              refine ok_see (by omega) (f2.sd hS) Tq2 hn (by omega) ?_
              rw [if_pos lt2]
              refine ok_isDgM (by omega) (f2.sd hS) ⟨fun z => ?_, fun z => ?_⟩
              · have : rnE isDg t n r = r := rnE_e (fun y => by rw [bI_0.mp z] at y; exact absurd y.2 (by decide))
                have e2 : r = rnE isDg t n (bg t n p) := this.symm.trans ep
                rw [x9, x0, pk_sub (by omega), lit_nI 5]
                have fin : ∀ x, x = ty (tkK t n p) → E mX12_next 1 0 0 231 [] [.int x, .ref 91] q2 (Qv G) X := fun x ex => sgX12_next_231 _ (Nat.le_refl _) (f2.sd hS) (hq _ (Fr.tr f2 Fr.pI) ⟨by rw [eE, ← e2]; exact x9, x0, ex, fun _ => by
                  show q2.1 91 72 = _
                  rw [x2]; unfold tkV; rw [← e2, rj, Nat.add_sub_cancel_left], fun z => by
                  rw [eK] at z; split at z <;> exact absurd z (by decide)⟩)
                exact ⟨fun z => fin 2 (by rw [eK, if_pos (by have := (nI_leI (by omega) (by omega)).mp z; omega)]; rfl), fun z => fin 4 (by rw [eK, if_neg (fun y => z (nI_le (by omega) (by omega)))]; rfl)⟩
              · have nx : ∀ v, v = dgV t (bg t n p) (j + 1) → E mX12_next 1 0 0 196 [(0, .ref 91)] [.int v, .ref 91] q2 (Qv G) X := fun v ev => by
                  refine sgX12_next_196 _ (Nat.le_refl _) (f2.sd hS) ?_
                  rw [x9, nI_1]
                  exact ih (r + 1) (j + 1) _ (by omega) (by omega) (by omega) (by rw [← rnE_s lt2 (bI_n0.mp z)]; exact ep) (Fr.tr f2 (Fr.tr Fr.pI Fr.pI)) rfl x0 ev
                rw [x9, x0, pk_sub (by omega), lit_nI 5, x2, nI_clamp (by omega), Tq2.1 r (by omega), show r - bg t n p = j by omega]
                refine ⟨fun y => nx _ ?_, fun y => ⟨vin (by omega), nx _ ?_⟩⟩
                · have y := (nI_leI (by omega) (by omega)).mp y
                  rw [dgV, if_neg (by omega)]
                · have j5 : j < 5 := Nat.not_le.mp fun x => y (nI_le x (by omega))
                  rw [dgV, if_pos j5, ← rj, Int32.mul_comm]
          exact s141 _ (bg t n p) 0 _ rfl rfl bn rfl (Fr.tr f1 Fr.pI) a1 b1 rfl
      · have w1 := bI_n0.mp w1
        have eE : tkE t n p = rnE isLt t n (bg t n p) := by
          unfold tkE; rw [if_neg (by omega), w1, if_pos rfl]
        have eK : tkK t n p = wdF t (bg t n p) (rnE isLt t n (bg t n p)) 14 := by
          unfold tkK; rw [if_neg (by omega), w1, if_pos rfl]
        have s94 : ∀ (m r : Nat) (q2 : Hp), n - r = m → r ≤ n → rnE isLt t n r = rnE isLt t n (bg t n p) → FN h q2 → q2.1 91 69 = nI r → q2.1 91 70 = nI (bg t n p) → E mX12_next 1 0 0 94 [(0, .ref 91)] [] q2 (Qv G) X := by
          intro m
          have fin : ∀ r (q2 : Hp), FN h q2 → q2.1 91 69 = nI r → q2.1 91 70 = nI (bg t n p) → r = rnE isLt t n (bg t n p) → G (hI q2 91 71 1) := fun r q2 f2 x9 x0 e2 => by
            obtain ⟨i, hi, ei⟩ := wdF_14 (t := t) (b := bg t n p) (e := rnE isLt t n (bg t n p)) 14 (Nat.le_refl _)
            have e1 : ty (tkK t n p) = 1 := by rw [eK, ei]; exact ty_w hi
            refine hq _ (Fr.tr f2 Fr.pI) ⟨by rw [eE, ← e2]; exact x9, x0, ?_, fun z => ?_, fun z => ?_⟩
            · rw [e1]; rfl
            · rw [z] at e1; exact absurd e1 (by decide)
            · rw [e1] at z; exact absurd z (by decide)
          induction m with
          | zero =>
            intro r q2 e1 rn' ep f2 x9 x0
            have : rnE isLt t n r = r := rnE_e (by omega)
            refine sgX12_next_94 (Nat.le_refl _) (f2.sd hS) ?_
            rw [x9]
            refine ok_see (by omega) (f2.sd hS) (TX.fr f2) hn (by omega) ?_
            rw [if_neg (by omega)]
            exact ok_isLtM (by omega) (f2.sd hS) ⟨fun _ => fin r q2 f2 x9 x0 (this.symm.trans ep), fun z => absurd rfl z⟩
          | succ m ih =>
            intro r q2 e1 rn' ep f2 x9 x0
            have lt2 : r < n := by omega
            refine sgX12_next_94 (Nat.le_refl _) (f2.sd hS) ?_
            rw [x9]
            refine ok_see (by omega) (f2.sd hS) (TX.fr f2) hn (by omega) ?_
            rw [if_pos lt2]
            refine ok_isLtM (by omega) (f2.sd hS) ⟨fun z => ?_, fun z => ?_⟩
            · have : rnE isLt t n r = r := rnE_e (fun y => by rw [bI_0.mp z] at y; exact absurd y.2 (by decide))
              exact fin r q2 f2 x9 x0 (this.symm.trans ep)
            · rw [x9, nI_1]
              exact ih (r + 1) _ (by omega) (by omega) (by rw [← rnE_s lt2 (bI_n0.mp z)]; exact ep) (Fr.tr f2 Fr.pI) rfl x0
        exact s94 _ (bg t n p) q1 rfl bn rfl f1 a1 b1
    · have ge : n ≤ bg t n p := Nat.not_lt.mp fun y => w (nI_lt y (by omega))
      have eE : tkE t n p = bg t n p := by unfold tkE; rw [if_pos ge]
      have eK := tkK_16.mpr ge
      exact hq _ (Fr.tr f (Fr.tr Fr.pI Fr.pI)) ⟨by rw [eE]; exact a, rfl, by rw [eK]; rfl, fun z => (by rw [eK] at z; exact absurd z (by decide)), fun z => (by rw [eK] at z; exact absurd z (by decide))⟩
  have s0 : ∀ (m r : Nat) (q : Hp), n - r = m → r ≤ n → rnE isBl t n r = bg t n p → FN h q → q.1 91 69 = nI r → E mX12_next 1 0 0 0 [(0, .ref 91)] [] q (Qv G) X := by
    intro m
    induction m with
    | zero =>
      intro r q e1 rn' ep f a
      have : rnE isBl t n r = r := rnE_e (by omega)
      have go := s52 q f (by rw [a, ← ep, this])
      exact sgX12_next_0 (Nat.le_refl _) (f.sd hS) ⟨fun _ => go, fun z => absurd (by rw [a, (TX.fr f).2]; exact nI_le (by omega) (by omega)) z⟩
    | succ m ih =>
      intro r q e1 rn' ep f a
      have lt : r < n := by omega
      have Tq := TX.fr f
      have blank : isBl (t r) = true → E mX12_next 1 0 0 39 [(0, .ref 91)] [] q (Qv G) X := fun y => by
        refine sgX12_next_39 (Nat.le_refl _) (f.sd hS) ?_
        rw [a, nI_1]
        exact ih (r + 1) _ (by omega) (by omega) (by rw [← rnE_s lt y]; exact ep) (Fr.tr f Fr.pI) rfl
      refine sgX12_next_0 (Nat.le_refl _) (f.sd hS) ⟨fun z => absurd z (by rw [a, Tq.2]; exact nI_ge lt (by omega)), fun _ => ?_⟩
      rw [a, nI_clamp (by omega), Tq.1 r (by omega)]
      refine ⟨vin (by omega), fun y => blank (by rw [isBl, decide_eq_true y, Bool.or_true]), fun y => ⟨vin (by omega), fun y2 => blank (by rw [isBl, decide_eq_true y2]; rfl), fun y2 => ?_⟩⟩
      have : rnE isBl t n r = r := rnE_e fun w => by rw [isBl, decide_eq_false y, decide_eq_false y2] at w; exact absurd w.2 (by decide)
      exact s52 q f (by rw [a, ← ep, this])
  exact OKv.up hd (okv_of 1 (by decide +kernel) (Nat.le_of_ble_eq_true rfl) (s0 _ p h rfl hp rfl Fr.rf ha))
end NEXT
