/-! the row of tokens, by the class -/
section SCANL
def PT (t : Nat → Int32) (n : Nat) : Nat → Nat
  | 0 => 0
  | k + 1 => tkE t n (PT t n k)
def Kr (t : Nat → Int32) (n k : Nat) : Int32 := tkK t n (PT t n k)
def Vr (t : Nat → Int32) (n k : Nat) : Int32 := tkV t n (PT t n k)
def Br (t : Nat → Int32) (n k : Nat) : Nat := bg t n (PT t n k)
variable {t : Nat → Int32} {n p b e w k T : Nat} {h q g : Hp} {d : Nat} {X : String → Hp → Prop} {F : Int32 → Hp → Prop} {G : Hp → Prop}
theorem wdF_14 : ∀ w, w ≤ 14 → ∃ j, j < 15 ∧ wdF t b e w = nI j
  | 0, _ => ⟨14, by decide, rfl⟩
  | w + 1, h => by
    rw [wdF]; split
    · exact ⟨w, by omega, rfl⟩
    · exact wdF_14 w (by omega)
theorem tkK_16 : tkK t n p = 16 ↔ n ≤ bg t n p := by
  unfold tkK
  by_cases h1 : n ≤ bg t n p
  · rw [if_pos h1]; exact ⟨fun _ => h1, fun _ => rfl⟩
  rw [if_neg h1]
  refine ⟨fun z => ?_, fun z => absurd z h1⟩
  by_cases h2 : isLt (t (bg t n p)) = true
  · rw [if_pos h2] at z
    obtain ⟨j, hj, ej⟩ := wdF_14 (t := t) (b := bg t n p) (e := rnE isLt t n (bg t n p)) 14 (Nat.le_refl _)
    rw [ej, lit_nI 16] at z
    have := nI_inj (by omega) (by omega) z
    omega
  rw [if_neg h2] at z
  by_cases h3 : isDg (t (bg t n p)) = true
  · rw [if_pos h3] at z
    split at z <;> exact absurd z (by decide)
  rw [if_neg h3] at z
  by_cases h4 : isKn (t (bg t n p)) = true
  · rw [if_pos h4] at z
    rw [z] at h4; exact absurd h4 (by decide)
  · rw [if_neg h4] at z; exact absurd z (by decide)
theorem tkE_gt (hn : bg t n p < n) : p + 1 ≤ tkE t n p := by
  have g0 : p ≤ bg t n p := rnE_ge
  unfold tkE
  rw [if_neg (by omega)]
  by_cases h2 : isLt (t (bg t n p)) = true
  · rw [if_pos h2, rnE_s hn h2]
    have : bg t n p + 1 ≤ rnE isLt t n (bg t n p + 1) := rnE_ge
    omega
  rw [if_neg h2]
  by_cases h3 : isDg (t (bg t n p)) = true
  · rw [if_pos h3, rnE_s hn h3]
    have : bg t n p + 1 ≤ rnE isDg t n (bg t n p + 1) := rnE_ge
    omega
  · rw [if_neg h3]; omega
theorem tkE_le (hp : p ≤ n) : tkE t n p ≤ n := by
  have g0 : bg t n p ≤ n := rnE_le hp
  unfold tkE
  by_cases h1 : n ≤ bg t n p
  · rw [if_pos h1]; exact g0
  rw [if_neg h1]
  by_cases h2 : isLt (t (bg t n p)) = true
  · rw [if_pos h2]; exact rnE_le g0
  rw [if_neg h2]
  by_cases h3 : isDg (t (bg t n p)) = true
  · rw [if_pos h3]; exact rnE_le g0
  · rw [if_neg h3]; omega
theorem PT_le : ∀ k, PT t n k ≤ n
  | 0 => Nat.zero_le _
  | k + 1 => tkE_le (PT_le k)
theorem PT_k : ∀ k, (∀ j, j < k → Kr t n j ≠ 16) → k ≤ PT t n k
  | 0, _ => Nat.zero_le _
  | k + 1, h => by
    have i := PT_k k fun j hj => h j (by omega)
    have h2 : bg t n (PT t n k) < n := Nat.not_le.mp fun z => h k (Nat.lt_succ_self _) (tkK_16.mpr z)
    have := tkE_gt h2
    show k + 1 ≤ tkE t n (PT t n k)
    omega
/-- the tokens up to the end, or to the first that is none -/
def ScT (t : Nat → Int32) (n T : Nat) : Prop := T ≤ n ∧ (∀ j, j < T → Kr t n j ≠ 16) ∧ (∀ j, j + 1 < T → Kr t n j ≠ 17) ∧ (Kr t n T = 16 ∨ (0 < T ∧ Kr t n (T - 1) = 17))
def ScI (t : Nat → Int32) (n : Nat) (q : Hp) (k : Nat) : Prop := q.1 73 6 = nI k ∧ ∀ j, j < k → q.1 82 j = Kr t n j ∧ q.1 84 j = nI (Br t n j) ∧ (Kr t n j = 15 → q.1 83 j = Vr t n j)
def FS (h q : Hp) : Prop := Fr [82, 83, 84] [(73, 6)] h q
theorem ok_scan (hd : 11 ≤ d) (hS : Std h.2.2) (ht : TxC t h) (hn : n ≤ 300) (hq : ∀ q T, FS h q → ScT t n T → ScI t n q T → q.1 82 T = 16 → q.1 84 T = nI n → G q) : OKv d mX6_scan [.ref 73, .ref 89, .int (nI n)] h G X := by
  have s149 : ∀ (q : Hp) (T : Nat), FS h q → ScT t n T → ScI t n q T → E mX6_scan 10 0 0 149 [(0, .ref 73), (2, .int (nI n))] [] q (Qv G) X := fun q T f s I => by
    have := s.1
    refine sgX6_scan_149 _ (Nat.le_refl _) (f.sd hS) ?_
    rw [I.1, nI_clamp (by omega)]
    refine ⟨vin (by omega), vin (by omega), hq _ T (Fr.tr f (Fr.tr Fr.pI Fr.pI)) s ⟨?_, fun j hj => ?_⟩ ?_ hI_k⟩
    · rw [hI_c (by decide), hI_c (by decide)]; exact I.1
    · rw [hI_c (by decide), hI_j (by omega), hI_j (by omega), hI_c (by decide), hI_c (by decide), hI_c (by decide)]; exact I.2 j hj
    · rw [hI_c (by decide), hI_k]
  have s13 : ∀ (m p k x : Nat) (q : Hp), n - p = m → PT t n k ≤ p → p ≤ n → rnE isBl t n p = Br t n k → (∀ j, j < k → Kr t n j ≠ 16 ∧ Kr t n j ≠ 17) → x ≤ p → FS h q → ScI t n q k → E mX6_scan 10 0 0 13 [(0, .ref 73), (1, .ref 89), (2, .int (nI n)), (3, .int (nI p)), (4, .int 1), (5, .int (nI x))] [] q (Qv G) X := by
    intro m
    induction m using Nat.strongRecOn with
    | ind m ih =>
    intro p k x q em hp pn eB hK hx f I
    have kP := PT_k (t := t) (n := n) k fun j hj => (hK j hj).1
    have stop : n ≤ p → E mX6_scan 10 0 0 149 [(0, .ref 73), (2, .int (nI n))] [] q (Qv G) X := fun z => by
      have e1 : rnE isBl t n p = p := rnE_e (by omega)
      refine s149 q k f ⟨by omega, fun j hj => (hK j hj).1, fun j hj => (hK j (by omega)).2, Or.inl (tkK_16.mpr ?_)⟩ I
      show n ≤ Br t n k
      rw [← eB, e1]; exact z
    refine sgX6_scan_13 _ _ _ _ (Nat.le_refl _) (f.sd hS) ⟨fun z => ?_, fun z => ⟨fun z2 => stop ((nI_leI (by omega) (by omega)).mp z2), fun z2 => ⟨fun z3 => absurd z3 (by decide), fun _ => ?_⟩⟩⟩
    · rw [lit_nI 300] at z
      have := (nI_leI (by omega) (by omega)).mp z
      exact stop (by omega)
    have lt : p < n := Nat.not_le.mp fun y => z2 (nI_le y (by omega))
    have tq := ht.fr f
    rw [nI_clamp (by omega), tq p (by omega)]
    have blank : isBl (t p) = true → E mX6_scan 10 0 0 50 [(0, .ref 73), (1, .ref 89), (2, .int (nI n)), (3, .int (nI p)), (4, .int 1), (5, .int (nI x))] [] q (Qv G) X := fun y => by
      refine sgX6_scan_50 _ _ _ _ (Nat.le_refl _) (f.sd hS) (sgX6_scan_143 _ _ _ _ (Nat.le_refl _) (f.sd hS) ?_)
      rw [nI_1, nI_1]
      exact ih (n - (p + 1)) (by omega) (p + 1) k (x + 1) q rfl (by omega) (by omega) (by rw [← rnE_s lt y]; exact eB) hK (by omega) f I
    refine ⟨vin (by omega), fun y => blank (by rw [isBl, decide_eq_true y]; rfl), fun y => ⟨fun y2 => blank (by rw [isBl, decide_eq_true y2, Bool.or_true]), fun y2 => ?_⟩⟩
    have nb : isBl (t p) = false := by rw [isBl, decide_eq_false y, decide_eq_false y2]; rfl
    have eP : bg t n (PT t n k) = p := by
      have : rnE isBl t n p = p := rnE_e fun w => by rw [nb] at w; exact absurd w.2 (by decide)
      exact eB.symm.trans this
    have eB2 : Br t n k = p := eP
    -- a token has been read: what follows
    have s111 : ∀ q2, FS h q2 → (∀ j, j ≠ k → q2.1 82 j = q.1 82 j ∧ q2.1 83 j = q.1 83 j ∧ q2.1 84 j = q.1 84 j) → q2.1 82 k = Kr t n k → q2.1 84 k = nI p → (Kr t n k = 15 → q2.1 83 k = Vr t n k) → q2.1 73 6 = nI k → E mX6_scan 10 0 0 111 [(0, .ref 73), (1, .ref 89), (2, .int (nI n)), (5, .int (nI x))] [.int (nI (PT t n (k + 1)))] q2 (Qv G) X := fun q2 f2 ho e82 e84 e83 e6 => by
      have hS2 : Std q2.2.2 := f2.sd hS
      have n16 : Kr t n k ≠ 16 := fun w => by
        have := tkK_16.mp w
        rw [eP] at this; omega
      have gt : p + 1 ≤ PT t n (k + 1) := by
        show p + 1 ≤ tkE t n (PT t n k)
        have e0 : bg t n p = p := rnE_e fun w => by rw [nb] at w; exact absurd w.2 (by decide)
        have := tkE_gt (t := t) (n := n) (p := p) (by omega)
        have e2 : tkE t n (PT t n k) = tkE t n p := by unfold tkE; rw [eP, e0]
        rw [e2]; exact this
      have le := PT_le (t := t) (n := n) (k + 1)
      have I2 : ScI t n (hI q2 73 6 (nI (k + 1))) (k + 1) := ⟨rfl, fun j hj => by
        rw [hI_c (by decide), hI_c (by decide), hI_c (by decide)]
        by_cases ej : j = k
        · rw [ej, eB2]; exact ⟨e82, e84, e83⟩
        · rw [(ho j ej).1, (ho j ej).2.1, (ho j ej).2.2]; exact I.2 j (by omega)⟩
      have f3 : FS h (hI q2 73 6 (nI (k + 1))) := Fr.tr f2 Fr.pI
      have all16 : ∀ j, j < k + 1 → Kr t n j ≠ 16 := fun j hj => by
        by_cases ej : j = k
        · rw [ej]; exact n16
        · exact (hK j (by omega)).1
      refine sgX6_scan_111 _ _ _ (Nat.le_refl _) hS2 ?_
      rw [e6, nI_clamp (by omega), e82]
      refine ⟨vin (by omega), fun w => sgX6_scan_131 _ _ _ _ (Nat.le_refl _) hS2 ?_, fun w => sgX6_scan_131 _ _ _ _ (Nat.le_refl _) hS2 ?_⟩
      · rw [e6, nI_1]
        have fin := s149 _ (k + 1) f3 ⟨by have := PT_k (t := t) (n := n) (k + 1) all16; omega, all16, fun j hj => (hK j (by omega)).2, Or.inr ⟨Nat.succ_pos _, w⟩⟩ I2
        refine sgX6_scan_143 _ _ _ _ (Nat.le_refl _) (f3.sd hS) ?_
        exact sgX6_scan_13 _ _ _ _ (Nat.le_refl _) (f3.sd hS) ⟨fun _ => fin, fun _ => ⟨fun _ => fin, fun _ => ⟨fun _ => fin, fun y => absurd rfl y⟩⟩⟩
      · rw [e6, nI_1]
        refine sgX6_scan_143 _ _ _ _ (Nat.le_refl _) (f3.sd hS) ?_
        rw [nI_1]
        exact ih (n - PT t n (k + 1)) (by omega) (PT t n (k + 1)) (k + 1) (x + 1) _ rfl (Nat.le_refl _) le rfl (fun j hj => by
          by_cases ej : j = k
          · rw [ej]; exact ⟨n16, w⟩
          · exact hK j (by omega)) (by omega) f3 I2
    rw [I.1, nI_clamp (by omega)]
    have f1 : FS h (hI q 84 k (nI p)) := Fr.tr f Fr.pI
    have hS1 : Std (hI q 84 k (nI p)).2.2 := f1.sd hS
    have t1 : TxC t (hI q 84 k (nI p)) := tq.fr (Fr.pI : Fr [84] [] q _)
    have e6 : (hI q 84 k (nI p)).1 73 6 = nI k := I.1
    have o84 : ∀ j, j ≠ k → (hI q 84 k (nI p)).1 82 j = q.1 82 j ∧ (hI q 84 k (nI p)).1 83 j = q.1 83 j ∧ (hI q 84 k (nI p)).1 84 j = q.1 84 j := fun j hj => ⟨by rw [hI_c (by decide)], by rw [hI_c (by decide)], by rw [hI_j hj]⟩
    have k84 : (hI q 84 k (nI p)).1 84 k = nI p := hI_k
    generalize hI q 84 k (nI p) = q1 at f1 hS1 t1 e6 o84 k84
    have nlt : ¬ n ≤ p := by omega
    refine ⟨vin (by omega), ok_isLt (by omega) hS1 ⟨fun w => ?_, fun w => ?_⟩⟩
    · have w := bI_0.mp w
      refine ok_isDg (by omega) hS1 ⟨fun w2 => ?_, fun w2 => ?_⟩
      · have w2 := bI_0.mp w2
        have eK : Kr t n k = if isKn (t p) = true then t p else 17 := by
          show tkK t n (PT t n k) = _
          unfold tkK
          rw [eP, if_neg nlt, w, w2, if_neg (by decide), if_neg (by decide)]
        have eE : PT t n (k + 1) = p + 1 := by
          show tkE t n (PT t n k) = _
          unfold tkE
          rw [eP, if_neg nlt, w, w2, if_neg (by decide), if_neg (by decide)]
        refine ok_scanSign (by omega) hS1 e6 (by omega) ?_
        rw [← eE, ← eK]
        refine s111 _ (Fr.tr f1 Fr.pI) (fun j hj => ?_) hI_k ?_ (fun z => ?_) ?_
        · rw [hI_j hj, hI_c (by decide), hI_c (by decide)]; exact o84 j hj
        · rw [hI_c (by decide)]; exact k84
        · rw [eK] at z
          by_cases kn : isKn (t p) = true
          · rw [if_pos kn] at z; rw [z] at kn; exact absurd kn (by decide)
          · rw [if_neg kn] at z; exact absurd z (by decide)
        · rw [hI_c (by decide)]; exact e6
      · have w2 := bI_n0.mp w2
        have eK : Kr t n k = if rnE isDg t n p - p ≤ 5 then 15 else 17 := by
          show tkK t n (PT t n k) = _
          unfold tkK
          rw [eP, if_neg nlt, w, w2, if_neg (by decide), if_pos rfl]
        have eE : PT t n (k + 1) = rnE isDg t n p := by
          show tkE t n (PT t n k) = _
          unfold tkE
          rw [eP, if_neg nlt, w, w2, if_neg (by decide), if_pos rfl]
        refine ok_scanNumber (t := t) (by omega) hS1 t1 e6 (by omega) (by omega) hn fun q2 f2 o2 e1 e2 => ?_
        rw [← eE]
        refine s111 q2 (Fr.tr f1 f2.mono) (fun j hj => ?_) (e1.trans eK.symm) ?_ (fun _ => ?_) ?_
        · rw [(o2 j hj).1, (o2 j hj).2, f2.i 84]; exact o84 j hj
        · rw [f2.i 84]; exact k84
        · rw [e2]
          show _ = tkV t n (PT t n k)
          unfold tkV
          rw [eP]
        · rw [f2.i 73 6]; exact e6
    · have w := bI_n0.mp w
      have eK : Kr t n k = wdF t p (rnE isLt t n p) 14 := by
        show tkK t n (PT t n k) = _
        unfold tkK
        rw [eP, if_neg nlt, w, if_pos rfl]
      have eE : PT t n (k + 1) = rnE isLt t n p := by
        show tkE t n (PT t n k) = _
        unfold tkE
        rw [eP, if_neg nlt, w, if_pos rfl]
      refine ok_scanWord (t := t) (Nat.le_refl _) hS1 t1 e6 (by omega) lt hn w fun q2 f2 o2 e1 => ?_
      rw [← eE]
      refine s111 q2 (Fr.tr f1 f2.mono) (fun j hj => ?_) (e1.trans eK.symm) ?_ (fun z => ?_) ?_
      · rw [o2 j hj, f2.i 83, f2.i 84]; exact o84 j hj
      · rw [f2.i 84]; exact k84
      · obtain ⟨i, hi, ei⟩ := wdF_14 (t := t) (b := p) (e := rnE isLt t n p) 14 (Nat.le_refl _)
        rw [eK, ei, lit_nI 15] at z
        have := nI_inj (by omega) (by omega) z
        omega
      · rw [f2.i 73 6]; exact e6
  exact enX6_scan _ hd hS (s13 _ 0 0 0 (hI h 73 6 0) rfl (Nat.le_refl _) (Nat.zero_le _) rfl (fun j hj => absurd hj (Nat.not_lt_zero _)) (Nat.le_refl _) Fr.pI ⟨rfl, fun j hj => absurd hj (Nat.not_lt_zero _)⟩)
end SCANL
