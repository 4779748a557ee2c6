/-! rights read: what is read out of a row of words -/
section PARSE
abbrev RP : Type := Nat × Nat × List Int32 × List Int32
variable (K V : Nat → Int32)
def flR (k kind : Nat) : RP := (if K k = 17 then 1 else kind, k, [], [])
def atR (sub : Option (Nat → Nat → RP)) (k b : Nat) : RP :=
  if K k = 15 then (0, k + 1, [V k], [0, V k])
  else if 7 ≤ K k ∧ K k < 14 then (0, k + 1, [6 - K k], [20 + (K k - 7)])
  else if K k = 40 then (match sub with
    | none => flR K k 4
    | some S => if (S (k + 1) b).1 ≠ 0 then S (k + 1) b else if K (S (k + 1) b).2.1 = 41 then (0, (S (k + 1) b).2.1 + 1, (S (k + 1) b).2.2.1, (S (k + 1) b).2.2.2) else flR K (S (k + 1) b).2.1 2)
  else flR K k 2
/-- what stands between: one step of a chain -/
def chR (A : Nat → Nat → RP) (op : Int32 → Bool) (rc : Int32 → Int32) (b : Nat) : Nat → RP → RP
  | 0, a => a
  | f + 1, a => if a.1 = 0 ∧ op (K a.2.1) = true then (if (A (a.2.1 + 1) (b + a.2.2.2.length)).1 ≠ 0 then A (a.2.1 + 1) (b + a.2.2.2.length) else
      chR A op rc b f (0, (A (a.2.1 + 1) (b + a.2.2.2.length)).2.1, a.2.2.1 ++ (A (a.2.1 + 1) (b + a.2.2.2.length)).2.2.1 ++ [-(K a.2.1)], a.2.2.2 ++ (A (a.2.1 + 1) (b + a.2.2.2.length)).2.2.2 ++ [rc (K a.2.1)])) else a
def opI (s : Int32) : Bool := decide (s = 42)
def opS (s : Int32) : Bool := decide (s = 43) || decide (s = 45)
def rcI (_ : Int32) : Int32 := 6
def rcS (s : Int32) : Int32 := if s = 43 then 4 else 5
def itR (sub : Option (Nat → Nat → RP)) (k b : Nat) : RP := chR K (atR K V sub) opI rcI b 302 (atR K V sub k b)
def suR (sub : Option (Nat → Nat → RP)) (k b : Nat) : RP := chR K (itR K V sub) opS rcS b 302 (itR K V sub k b)
def sumR : Nat → Nat → Nat → RP
  | 0 => suR K V none
  | n + 1 => suR K V (some (sumR n))
def isC (s : Int32) : Bool := decide (s = 60) || decide (s = 62) || decide (s = 61)
def rcC (s : Int32) : Int32 := if s = 60 then 7 else if s = 62 then 8 else 9
def cmR (S : Nat → Nat → RP) (k b : Nat) : RP :=
  if (S k b).1 ≠ 0 then S k b else if isC (K (S k b).2.1) = true then (if (S ((S k b).2.1 + 1) (b + (S k b).2.2.2.length)).1 ≠ 0 then S ((S k b).2.1 + 1) (b + (S k b).2.2.2.length) else
    (0, (S ((S k b).2.1 + 1) (b + (S k b).2.2.2.length)).2.1, (S k b).2.2.1 ++ (S ((S k b).2.1 + 1) (b + (S k b).2.2.2.length)).2.2.1 ++ [-(K (S k b).2.1)], (S k b).2.2.2 ++ (S ((S k b).2.1 + 1) (b + (S k b).2.2.2.length)).2.2.2 ++ [rcC (K (S k b).2.1)]))
  else flR K (S k b).2.1 2
/-- or, and -/
def juR (A : Nat → Nat → RP) (w cc jc : Int32) (b : Nat) : Nat → RP → RP
  | 0, a => a
  | f + 1, a => if a.1 = 0 ∧ K a.2.1 = w then (if (A (a.2.1 + 1) (b + a.2.2.2.length + 2)).1 ≠ 0 then A (a.2.1 + 1) (b + a.2.2.2.length + 2) else
      juR A w cc jc b f (0, (A (a.2.1 + 1) (b + a.2.2.2.length + 2)).2.1, a.2.2.1 ++ (A (a.2.1 + 1) (b + a.2.2.2.length + 2)).2.2.1 ++ [cc], a.2.2.2 ++ jc :: nI (b + a.2.2.2.length + 2 + (A (a.2.1 + 1) (b + a.2.2.2.length + 2)).2.2.2.length) :: (A (a.2.1 + 1) (b + a.2.2.2.length + 2)).2.2.2)) else a
def boR (O : Nat → Nat → RP) (k b : Nat) : RP := juR K O 5 (-21) 2 b 302 (O k b)
def teR (O : Nat → Nat → RP) (k b : Nat) : RP := juR K (boR K O) 4 (-20) 1 b 302 (boR K O k b)
def onR (sub : Option (Nat → Nat → RP)) (S : Nat → Nat → RP) (k b : Nat) : RP :=
  if K k = 6 then (match sub with
    | none => flR K k 4
    | some O => if (O (k + 1) b).1 ≠ 0 then O (k + 1) b else (0, (O (k + 1) b).2.1, (O (k + 1) b).2.2.1 ++ [-22], (O (k + 1) b).2.2.2 ++ [3]))
  else if K k = 91 then (match sub with
    | none => flR K k 4
    | some O => if (teR K O (k + 1) b).1 ≠ 0 then teR K O (k + 1) b else if K (teR K O (k + 1) b).2.1 = 93 then (0, (teR K O (k + 1) b).2.1 + 1, (teR K O (k + 1) b).2.2.1, (teR K O (k + 1) b).2.2.2) else flR K (teR K O (k + 1) b).2.1 2)
  else cmR K S k b
def oneR : Nat → Nat → Nat → RP
  | 0 => onR K none (sumR K V 0)
  | n + 1 => onR K (some (oneR n)) (sumR K V (n + 1))
/-- tokens behind which one may go on -/
def OKk (k : Nat) : Prop := ∀ j, j < k → K j ≠ 16 ∧ K j ≠ 17
def TkP (P : Nat → Nat) : Prop := (∀ k, OKk K (k + 1) → P k + 1 ≤ P (k + 1)) ∧ (∀ k, OKk K (k + 1) → K k = 4 ∨ K k = 5 → P k + 2 ≤ P (k + 1)) ∧ (∀ k, OKk K k → P k ≤ 300) ∧ ∀ k, K k = 15 → ∃ m, m < 100000 ∧ V k = nI m
/-- read well: as long as it may be, and worth the same on both sides -/
def SPv (b D : Nat) (tst : Prop) (r : RP) : Prop := ∃ val : (Nat → Int64) → Int64, (∀ ν ν', EqN ν' ν → val ν' = val ν) ∧ (tst → ∀ ν, val ν = 0 ∨ val ν = 1) ∧ ∀ ν, FrC ν r.2.2.1 [] [val ν] ∧ FrR ν r.2.2.2 b D [] [val ν]
def SP (P : Nat → Nat) (k b D : Nat) (tst : Prop) (r : RP) : Prop := k ≤ r.2.1 ∧ OKk K r.2.1 ∧ (r.1 = 0 → k < r.2.1 ∧ r.2.2.1.length + k ≤ r.2.1 ∧ 2 * r.2.2.2.length + 3 * P k ≤ 3 * P r.2.1 + 1 ∧ SPv b D tst r) ∧ (r.1 ≠ 0 → r.1 ≤ 4 ∧ (K r.2.1 = 17 ↔ r.1 = 1))
variable {K V} {P : Nat → Nat}
theorem OKk.s {k : Nat} (o : OKk K k) (h1 : K k ≠ 16) (h2 : K k ≠ 17) : OKk K (k + 1) := fun j hj => by
  by_cases e : j = k
  · rw [e]; exact ⟨h1, h2⟩
  · exact o j (by omega)
theorem SP_fl {k b D kind : Nat} {tst : Prop} (o : OKk K k) (h2 : 2 ≤ kind) (h4 : kind ≤ 4) : SP K P k b D tst (flR K k kind) := by
  refine ⟨Nat.le_refl _, o, fun z => ?_, fun _ => ⟨?_, ?_⟩⟩
  · simp only [flR] at z
    split at z <;> omega
  · show (if K k = 17 then 1 else kind) ≤ 4
    split <;> omega
  · show K k = 17 ↔ (if K k = 17 then 1 else kind) = 1
    split
    · next q => exact ⟨fun _ => rfl, fun _ => q⟩
    · next q => exact ⟨fun z => absurd z q, fun z => by omega⟩
theorem SPv.up {b D D' : Nat} {tst : Prop} {r : RP} (h : SPv b D tst r) (hD : D ≤ D') : SPv b D' tst r := by
  obtain ⟨v, h1, h2, h3⟩ := h
  exact ⟨v, h1, h2, fun ν => ⟨(h3 ν).1, (h3 ν).2.up hD⟩⟩
theorem nm_of (z : Int32) (h1 : 7 ≤ z) (h2 : z < 14) : ∃ j, j < 7 ∧ z = nI (7 + j) := by
  have h3 : 0 ≤ z := by rw [fa_le] at *; have a7 : (7 : Int32).toInt = 7 := rfl; have a0 : (0 : Int32).toInt = 0 := rfl; omega
  obtain ⟨m, hm, e⟩ := nI_nat h3
  rw [e, lit_nI 7] at h1
  rw [e, lit_nI 14] at h2
  have g1 := (nI_leI (by omega) hm).mp h1
  have g2 := (nI_ltI hm (by omega)).mp h2
  exact ⟨m - 7, by omega, by rw [e, show 7 + (m - 7) = m by omega]⟩
theorem nm_c : ∀ j, j < 7 → (6 : Int32) - nI (7 + j) = -1 - nI j ∧ (20 : Int32) + (nI (7 + j) - 7) = nI (20 + j) ∧ nI (7 + j) ≠ 16 ∧ nI (7 + j) ≠ 17 ∧ nI (7 + j) ≠ 15 ∧ (7 : Int32) ≤ nI (7 + j) ∧ nI (7 + j) < 14 := by decide +kernel
def SubOK (K : Nat → Int32) (P : Nat → Nat) (D : Nat) (tst : Prop) (S : Nat → Nat → RP) : Prop := ∀ k b, OKk K k → 2 * b ≤ 3 * P k + 2 → SP K P k b D tst (S k b)
theorem SP_at (T : TkP K V P) {sub : Option (Nat → Nat → RP)} {D : Nat} (hD : 1 ≤ D) (hs : ∀ S, sub = some S → SubOK K P D False S) : SubOK K P D False (atR K V sub) := by
  intro k b o hb2
  unfold atR
  by_cases h1 : K k = 15
  · rw [if_pos h1]
    have o1 := o.s (by rw [h1]; decide) (by rw [h1]; decide)
    have p1 := T.1 k o1
    obtain ⟨m, hm, em⟩ := T.2.2.2 k h1
    refine ⟨Nat.le_succ _, o1, fun _ => ⟨Nat.lt_succ_self _, by show 1 + k ≤ k + 1; omega, by show 2 * 2 + 3 * P k ≤ 3 * P (k + 1) + 1; omega, fun _ => (nI m).toInt64, fun _ _ _ => rfl, fun z => z.elim, fun ν => ?_⟩, fun z => absurd rfl z⟩
    show FrC ν [V k] [] _ ∧ FrR ν [0, V k] b D [] _
    rw [em]
    exact ⟨FrC.num (by omega), FrR.num hD⟩
  rw [if_neg h1]
  by_cases h2 : 7 ≤ K k ∧ K k < 14
  · rw [if_pos h2]
    obtain ⟨j, hj, ej⟩ := nm_of _ h2.1 h2.2
    obtain ⟨c1, c2, c3, c4, _⟩ := nm_c j hj
    have o1 := o.s (by rw [ej]; exact c3) (by rw [ej]; exact c4)
    have p1 := T.1 k o1
    refine ⟨Nat.le_succ _, o1, fun _ => ⟨Nat.lt_succ_self _, by show 1 + k ≤ k + 1; omega, by show 2 * 1 + 3 * P k ≤ 3 * P (k + 1) + 1; omega, fun ν => ν j, fun ν ν' e => e j hj, fun z => z.elim, fun ν => ?_⟩, fun z => absurd rfl z⟩
    show FrC ν [6 - K k] [] _ ∧ FrR ν [20 + (K k - 7)] b D [] _
    rw [ej, c1, c2]
    exact ⟨FrC.name hj, FrR.name hj hD⟩
  rw [if_neg h2]
  by_cases h3 : K k = 40
  · rw [if_pos h3]
    cases hsub : sub with
    | none => exact SP_fl o (by decide) (by decide)
    | some S =>
      have o1 := o.s (by rw [h3]; decide) (by rw [h3]; decide)
      have p1 := T.1 k o1
      obtain ⟨s1, s2, s3, s4⟩ := hs S hsub (k + 1) b o1 (by omega)
      show SP K P k b D False (if (S (k + 1) b).1 ≠ 0 then _ else _)
      by_cases z : (S (k + 1) b).1 = 0
      · rw [if_neg (fun w => w z)]
        obtain ⟨t1, t2, t3, t4⟩ := s3 z
        by_cases w : K (S (k + 1) b).2.1 = 41
        · rw [if_pos w]
          have o2 := s2.s (by rw [w]; decide) (by rw [w]; decide)
          have p2 := T.1 _ o2
          refine ⟨?_, o2, fun _ => ⟨?_, ?_, ?_, t4⟩, fun y => absurd rfl y⟩
          · show k ≤ (S (k + 1) b).2.1 + 1; omega
          · show k < (S (k + 1) b).2.1 + 1; omega
          · show (S (k + 1) b).2.2.1.length + k ≤ (S (k + 1) b).2.1 + 1; omega
          · show 2 * (S (k + 1) b).2.2.2.length + 3 * P k ≤ 3 * P ((S (k + 1) b).2.1 + 1) + 1; omega
        · rw [if_neg w]
          have f := SP_fl (K := K) (P := P) (b := b) (D := D) (tst := False) (kind := 2) s2 (by decide) (by decide)
          exact ⟨Nat.le_trans (by omega) f.1, f.2.1, fun y => absurd y (fun y => by simp only [flR] at y; split at y <;> omega), f.2.2.2⟩
      · rw [if_pos z]
        exact ⟨by omega, s2, fun w => absurd w z, s4⟩
  · rw [if_neg h3]
    exact SP_fl o (by decide) (by decide)
theorem SP_ft {k k' b b' D D' : Nat} {tst tst' : Prop} {r : RP} (h : SP K P k' b' D' tst' r) (hk : k ≤ k') (hr : r.1 ≠ 0) : SP K P k b D tst r := ⟨by have := h.1; omega, h.2.1, fun z => absurd z hr, h.2.2.2⟩
theorem fl_n {k kind : Nat} (h : kind ≠ 0) : (flR K k kind).1 ≠ 0 := by
  show (if K k = 17 then 1 else kind) ≠ 0
  split <;> omega
def OpOK (op : Int32 → Bool) (rc : Int32 → Int32) : Prop := ∀ s, op s = true → s ≠ 16 ∧ s ≠ 17 ∧ -s < -7 ∧ -s ≠ -22 ∧ (∃ c : Nat, 4 ≤ c ∧ c < 20 ∧ rc s = nI c) ∧ ∀ x y, jnC (-s) x y = twR (rc s) x y
theorem opI_ok : OpOK opI rcI := fun s h => by
  have e : s = 42 := of_decide_eq_true h
  subst e
  exact ⟨by decide, by decide, by decide, by decide, ⟨6, by decide, by decide, by decide⟩, fun _ _ => rfl⟩
theorem opS_ok : OpOK opS rcS := fun s h => by
  rw [opS, Bool.or_eq_true, decide_eq_true_eq, decide_eq_true_eq] at h
  obtain e | e := h <;> subst e
  · exact ⟨by decide, by decide, by decide, by decide, ⟨4, by decide, by decide, by decide⟩, fun _ _ => rfl⟩
  · exact ⟨by decide, by decide, by decide, by decide, ⟨5, by decide, by decide, by decide⟩, fun _ _ => rfl⟩
theorem opC_ok : OpOK isC rcC := fun s h => by
  rw [isC, Bool.or_eq_true, Bool.or_eq_true, decide_eq_true_eq, decide_eq_true_eq, decide_eq_true_eq] at h
  obtain (e | e) | e := h <;> subst e
  · exact ⟨by decide, by decide, by decide, by decide, ⟨7, by decide, by decide, by decide⟩, fun _ _ => rfl⟩
  · exact ⟨by decide, by decide, by decide, by decide, ⟨8, by decide, by decide, by decide⟩, fun _ _ => rfl⟩
  · exact ⟨by decide, by decide, by decide, by decide, ⟨9, by decide, by decide, by decide⟩, fun _ _ => rfl⟩
theorem isC_01 {s : Int32} (h : isC s = true) (x y : Int64) : jnC (-s) x y = 0 ∨ jnC (-s) x y = 1 := by
  rw [isC, Bool.or_eq_true, Bool.or_eq_true, decide_eq_true_eq, decide_eq_true_eq, decide_eq_true_eq] at h
  obtain (e | e) | e := h <;> subst e
  · show (if y ≤ x then (0 : Int64) else 1) = 0 ∨ (if y ≤ x then (0 : Int64) else 1) = 1
    split <;> simp
  · show (if x ≤ y then (0 : Int64) else 1) = 0 ∨ (if x ≤ y then (0 : Int64) else 1) = 1
    split <;> simp
  · show (if x = y then (1 : Int64) else 0) = 0 ∨ (if x = y then (1 : Int64) else 0) = 1
    split <;> simp
/-- two, and the sign between -/
theorem SPv_op {b D : Nat} {tst t1 : Prop} {a s : RP} {sg rc : Int32} (ha : SPv b (D + 1) t1 a) (hs : SPv (b + a.2.2.2.length) D t1 s) (h1 : -sg < -7) (h2 : -sg ≠ -22) (hc : ∃ c : Nat, 4 ≤ c ∧ c < 20 ∧ rc = nI c) (he : ∀ x y, jnC (-sg) x y = twR rc x y) (ht : tst → ∀ x y, jnC (-sg) x y = 0 ∨ jnC (-sg) x y = 1) (k : Nat) : SPv b (D + 1) tst (0, k, a.2.2.1 ++ s.2.2.1 ++ [-sg], a.2.2.2 ++ s.2.2.2 ++ [rc]) := by
  obtain ⟨va, a1, _, a3⟩ := ha
  obtain ⟨vs, s1, _, s3⟩ := hs
  obtain ⟨c, c4, c20, ec⟩ := hc
  refine ⟨fun ν => jnC (-sg) (va ν) (vs ν), fun ν ν' e => by show jnC _ (va ν') (vs ν') = jnC _ (va ν) (vs ν); rw [a1 _ _ e, s1 _ _ e], fun t ν => ht t _ _, fun ν => ⟨((a3 ν).1.app (s3 ν).1.on).app (FrC.op h1 h2), ?_⟩⟩
  show FrR ν (a.2.2.2 ++ s.2.2.2 ++ [rc]) b (D + 1) [] [jnC (-sg) (va ν) (vs ν)]
  rw [he, ec]
  exact FrR.app (FrR.app (a3 ν).2 ((s3 ν).2.on (u := [va ν]))) (FrR.op c4 c20)
theorem SP_chS (T : TkP K V P) {A : Nat → Nat → RP} {op : Int32 → Bool} {rc : Int32 → Int32} {D k b : Nat} (hA : SubOK K P D False A) (hop : OpOK op rc) (hb2 : 2 * b ≤ 3 * P k + 2) {a : RP} (h : SP K P k b (D + 1) False a) (qa : a.1 = 0) (qo : op (K a.2.1) = true) : OKk K (a.2.1 + 1) ∧ SP K P (a.2.1 + 1) (b + a.2.2.2.length) D False (A (a.2.1 + 1) (b + a.2.2.2.length)) ∧ ((A (a.2.1 + 1) (b + a.2.2.2.length)).1 = 0 → SP K P k b (D + 1) False (0, (A (a.2.1 + 1) (b + a.2.2.2.length)).2.1, a.2.2.1 ++ (A (a.2.1 + 1) (b + a.2.2.2.length)).2.2.1 ++ [-(K a.2.1)], a.2.2.2 ++ (A (a.2.1 + 1) (b + a.2.2.2.length)).2.2.2 ++ [rc (K a.2.1)])) := by
  obtain ⟨a1, a2, a3, a4⟩ := id h
  obtain ⟨t1, t2, t3, t4⟩ := a3 qa
  obtain ⟨n16, n17, o1, o2, o3, o4⟩ := hop _ qo
  have ok1 := a2.s n16 n17
  have p1 := T.1 _ ok1
  have hs := hA (a.2.1 + 1) (b + a.2.2.2.length) ok1 (by omega)
  refine ⟨ok1, hs, fun z => ?_⟩
  obtain ⟨s1, s2, s3, s4⟩ := id hs
  obtain ⟨u1, u2, u3, u4⟩ := s3 z
  refine ⟨?_, s2, fun _ => ⟨?_, ?_, ?_, SPv_op t4 u4 o1 o2 o3 o4 (fun w => w.elim) _⟩, fun w => absurd rfl w⟩
  · show k ≤ (A (a.2.1 + 1) (b + a.2.2.2.length)).2.1; omega
  · show k < (A (a.2.1 + 1) (b + a.2.2.2.length)).2.1; omega
  · show (_ ++ _ ++ [_]).length + k ≤ (A (a.2.1 + 1) (b + a.2.2.2.length)).2.1
    rw [List.length_append, List.length_append, List.length_singleton]; omega
  · show 2 * (_ ++ _ ++ [_]).length + 3 * P k ≤ 3 * P (A (a.2.1 + 1) (b + a.2.2.2.length)).2.1 + 1
    rw [List.length_append, List.length_append, List.length_singleton]; omega
theorem SP_ch (T : TkP K V P) {A : Nat → Nat → RP} {op : Int32 → Bool} {rc : Int32 → Int32} {D k b : Nat} (hA : SubOK K P D False A) (hop : OpOK op rc) (hb2 : 2 * b ≤ 3 * P k + 2) : ∀ (f : Nat) (a : RP), SP K P k b (D + 1) False a → SP K P k b (D + 1) False (chR K A op rc b f a)
  | 0, a, h => h
  | f + 1, a, h => by
    unfold chR
    by_cases q : a.1 = 0 ∧ op (K a.2.1) = true
    · rw [if_pos q]
      obtain ⟨ok1, hs, nx⟩ := SP_chS T hA hop hb2 h q.1 q.2
      by_cases z : (A (a.2.1 + 1) (b + a.2.2.2.length)).1 = 0
      · rw [if_neg (fun w => w z)]
        exact SP_ch T hA hop hb2 f _ (nx z)
      · rw [if_pos z]
        exact SP_ft hs (Nat.le_succ_of_le h.1) z
    · rw [if_neg q]; exact h
theorem SP.up {k b D D' : Nat} {tst : Prop} {r : RP} (h : SP K P k b D tst r) (hD : D ≤ D') : SP K P k b D' tst r := ⟨h.1, h.2.1, fun z => ⟨(h.2.2.1 z).1, (h.2.2.1 z).2.1, (h.2.2.1 z).2.2.1, (h.2.2.1 z).2.2.2.up hD⟩, h.2.2.2⟩
theorem SP_it (T : TkP K V P) {sub : Option (Nat → Nat → RP)} {D : Nat} (hD : 1 ≤ D) (hs : ∀ S, sub = some S → SubOK K P D False S) : SubOK K P (D + 1) False (itR K V sub) := fun k b o hb2 =>
  SP_ch T (SP_at T hD hs) opI_ok hb2 302 _ ((SP_at T hD hs k b o hb2).up (Nat.le_succ _))
theorem SP_su (T : TkP K V P) {sub : Option (Nat → Nat → RP)} {D : Nat} (hD : 1 ≤ D) (hs : ∀ S, sub = some S → SubOK K P D False S) : SubOK K P (D + 2) False (suR K V sub) := fun k b o hb2 =>
  SP_ch T (SP_it T hD hs) opS_ok hb2 302 _ ((SP_it T hD hs k b o hb2).up (Nat.le_succ _))
theorem SP_sum (T : TkP K V P) : ∀ n, SubOK K P (3 + 2 * n) False (sumR K V n)
  | 0 => SP_su T (D := 1) (by decide) fun S e => nomatch e
  | n + 1 => SP_su T (D := 3 + 2 * n) (by omega) fun S e => by
    injection e with e
    rw [← e]; exact SP_sum T n
theorem SP_cm (T : TkP K V P) {S : Nat → Nat → RP} {D : Nat} (hS : SubOK K P D False S) : SubOK K P (D + 1) True (cmR K S) := by
  intro k b o hb2
  have h := hS k b o hb2
  obtain ⟨a1, a2, a3, a4⟩ := id h
  unfold cmR
  by_cases z : (S k b).1 = 0
  · rw [if_neg (fun w => w z)]
    obtain ⟨t1, t2, t3, t4⟩ := a3 z
    by_cases q : isC (K (S k b).2.1) = true
    · rw [if_pos q]
      obtain ⟨n16, n17, o1, o2, o3, o4⟩ := opC_ok _ q
      have ok1 := a2.s n16 n17
      have p1 := T.1 _ ok1
      have hs := hS ((S k b).2.1 + 1) (b + (S k b).2.2.2.length) ok1 (by omega)
      by_cases z2 : (S ((S k b).2.1 + 1) (b + (S k b).2.2.2.length)).1 = 0
      · rw [if_neg (fun w => w z2)]
        obtain ⟨s1, s2, s3, s4⟩ := id hs
        obtain ⟨u1, u2, u3, u4⟩ := s3 z2
        refine ⟨?_, s2, fun _ => ⟨?_, ?_, ?_, SPv_op (t4.up (Nat.le_succ _)) u4 o1 o2 o3 o4 (fun _ => isC_01 q) _⟩, fun w => absurd rfl w⟩
        · show k ≤ (S ((S k b).2.1 + 1) (b + (S k b).2.2.2.length)).2.1; omega
        · show k < (S ((S k b).2.1 + 1) (b + (S k b).2.2.2.length)).2.1; omega
        · show (_ ++ _ ++ [_]).length + k ≤ (S ((S k b).2.1 + 1) (b + (S k b).2.2.2.length)).2.1
          rw [List.length_append, List.length_append, List.length_singleton]; omega
        · show 2 * (_ ++ _ ++ [_]).length + 3 * P k ≤ 3 * P (S ((S k b).2.1 + 1) (b + (S k b).2.2.2.length)).2.1 + 1
          rw [List.length_append, List.length_append, List.length_singleton]; omega
      · rw [if_pos z2]
        exact SP_ft hs (by omega) z2
    · rw [if_neg q]
      exact SP_ft (SP_fl (b := b) (D := D) (tst := True) a2 (by decide) (by decide)) a1 (fl_n (by decide))
  · rw [if_pos z]
    exact SP_ft h (Nat.le_refl _) z
/-- or, and -/
def JuOK (cc jc : Int32) : Prop := cc < -7 ∧ cc ≠ -22 ∧ (jc = 1 ∨ jc = 2) ∧ ∀ x y : Int64, (x = 0 ∨ x = 1) → (y = 0 ∨ y = 1) → jnC cc x y = (if jc = 1 then (if x = 0 then y else x) else (if x = 0 then x else y)) ∧ (jnC cc x y = 0 ∨ jnC cc x y = 1)
theorem ju_and : JuOK (-21) 2 := ⟨by decide, by decide, Or.inr rfl, fun x y hx hy => by obtain rfl | rfl := hx <;> obtain rfl | rfl := hy <;> exact ⟨by decide, by decide⟩⟩
theorem ju_or : JuOK (-20) 1 := ⟨by decide, by decide, Or.inl rfl, fun x y hx hy => by obtain rfl | rfl := hx <;> obtain rfl | rfl := hy <;> exact ⟨by decide, by decide⟩⟩
theorem SPv_ju {b D : Nat} {a s : RP} {cc jc : Int32} (ha : SPv b D True a) (hs : SPv (b + a.2.2.2.length + 2) D True s) (J : JuOK cc jc) (hl : b + a.2.2.2.length + 2 + s.2.2.2.length < 2 ^ 31) (k : Nat) : SPv b D True (0, k, a.2.2.1 ++ s.2.2.1 ++ [cc], a.2.2.2 ++ jc :: nI (b + a.2.2.2.length + 2 + s.2.2.2.length) :: s.2.2.2) := by
  obtain ⟨va, a1, a2, a3⟩ := ha
  obtain ⟨vs, s1, s2, s3⟩ := hs
  obtain ⟨j1, j2, j3, j4⟩ := J
  refine ⟨fun ν => jnC cc (va ν) (vs ν), fun ν ν' e => by show jnC _ (va ν') (vs ν') = jnC _ (va ν) (vs ν); rw [a1 _ _ e, s1 _ _ e], fun t ν => (j4 _ _ (a2 t ν) (s2 t ν)).2, fun ν => ⟨((a3 ν).1.app (s3 ν).1.on).app (FrC.op j1 j2), ?_⟩⟩
  show FrR ν (a.2.2.2 ++ jc :: nI (b + a.2.2.2.length + 2 + s.2.2.2.length) :: s.2.2.2) b D [] [jnC cc (va ν) (vs ν)]
  rw [(j4 _ _ (a2 trivial ν) (s2 trivial ν)).1]
  exact FrR.app (a3 ν).2 (FrR.jump j3 hl (s3 ν).2)
theorem SP_juS (T : TkP K V P) {A : Nat → Nat → RP} {w cc jc : Int32} {D k b : Nat} (hA : SubOK K P D True A) (J : JuOK cc jc) (hw : w = 4 ∨ w = 5) (hb2 : 2 * b ≤ 3 * P k + 2) {a : RP} (h : SP K P k b D True a) (qa : a.1 = 0) (qw : K a.2.1 = w) : OKk K (a.2.1 + 1) ∧ SP K P (a.2.1 + 1) (b + a.2.2.2.length + 2) D True (A (a.2.1 + 1) (b + a.2.2.2.length + 2)) ∧ ((A (a.2.1 + 1) (b + a.2.2.2.length + 2)).1 = 0 → SP K P k b D True (0, (A (a.2.1 + 1) (b + a.2.2.2.length + 2)).2.1, a.2.2.1 ++ (A (a.2.1 + 1) (b + a.2.2.2.length + 2)).2.2.1 ++ [cc], a.2.2.2 ++ jc :: nI (b + a.2.2.2.length + 2 + (A (a.2.1 + 1) (b + a.2.2.2.length + 2)).2.2.2.length) :: (A (a.2.1 + 1) (b + a.2.2.2.length + 2)).2.2.2)) := by
  obtain ⟨a1, a2, a3, a4⟩ := id h
  obtain ⟨t1, t2, t3, t4⟩ := a3 qa
  have ok1 : OKk K (a.2.1 + 1) := a2.s (by rw [qw]; obtain rfl | rfl := hw <;> decide) (by rw [qw]; obtain rfl | rfl := hw <;> decide)
  have p1 := T.2.1 _ ok1 (by rw [qw]; exact hw)
  have hs := hA (a.2.1 + 1) (b + a.2.2.2.length + 2) ok1 (by omega)
  refine ⟨ok1, hs, fun z => ?_⟩
  obtain ⟨s1, s2, s3, s4⟩ := id hs
  obtain ⟨u1, u2, u3, u4⟩ := s3 z
  have p3 := T.2.2.1 _ s2
  refine ⟨?_, s2, fun _ => ⟨?_, ?_, ?_, SPv_ju t4 u4 J (by omega) _⟩, fun w => absurd rfl w⟩
  · show k ≤ (A (a.2.1 + 1) (b + a.2.2.2.length + 2)).2.1; omega
  · show k < (A (a.2.1 + 1) (b + a.2.2.2.length + 2)).2.1; omega
  · show (_ ++ _ ++ [_]).length + k ≤ (A (a.2.1 + 1) (b + a.2.2.2.length + 2)).2.1
    rw [List.length_append, List.length_append, List.length_singleton]; omega
  · show 2 * (_ ++ _ :: _ :: _).length + 3 * P k ≤ 3 * P (A (a.2.1 + 1) (b + a.2.2.2.length + 2)).2.1 + 1
    rw [List.length_append, List.length_cons, List.length_cons]; omega
theorem SP_ju (T : TkP K V P) {A : Nat → Nat → RP} {w cc jc : Int32} {D k b : Nat} (hA : SubOK K P D True A) (J : JuOK cc jc) (hw : w = 4 ∨ w = 5) (hb2 : 2 * b ≤ 3 * P k + 2) : ∀ (f : Nat) (a : RP), SP K P k b D True a → SP K P k b D True (juR K A w cc jc b f a)
  | 0, a, h => h
  | f + 1, a, h => by
    unfold juR
    by_cases q : a.1 = 0 ∧ K a.2.1 = w
    · rw [if_pos q]
      obtain ⟨ok1, hs, nx⟩ := SP_juS T hA J hw hb2 h q.1 q.2
      by_cases z : (A (a.2.1 + 1) (b + a.2.2.2.length + 2)).1 = 0
      · rw [if_neg (fun w => w z)]
        exact SP_ju T hA J hw hb2 f _ (nx z)
      · rw [if_pos z]
        exact SP_ft hs (Nat.le_succ_of_le h.1) z
    · rw [if_neg q]; exact h
theorem SP_bo (T : TkP K V P) {O : Nat → Nat → RP} {D : Nat} (hO : SubOK K P D True O) : SubOK K P D True (boR K O) := fun k b o hb2 => SP_ju T hO ju_and (Or.inr rfl) hb2 302 _ (hO k b o hb2)
theorem SP_te (T : TkP K V P) {O : Nat → Nat → RP} {D : Nat} (hO : SubOK K P D True O) : SubOK K P D True (teR K O) := fun k b o hb2 => SP_ju T (SP_bo T hO) ju_or (Or.inl rfl) hb2 302 _ (SP_bo T hO k b o hb2)
theorem SP_on (T : TkP K V P) {sub : Option (Nat → Nat → RP)} {S : Nat → Nat → RP} {D : Nat} (hs : ∀ O, sub = some O → SubOK K P (D + 1) True O) (hS : SubOK K P D False S) : SubOK K P (D + 1) True (onR K sub S) := by
  intro k b o hb2
  unfold onR
  by_cases h1 : K k = 6
  · rw [if_pos h1]
    cases hsub : sub with
    | none => exact SP_fl o (by decide) (by decide)
    | some O =>
      have o1 : OKk K (k + 1) := o.s (by rw [h1]; decide) (by rw [h1]; decide)
      have p1 := T.1 k o1
      have h := hs O hsub (k + 1) b o1 (by omega)
      obtain ⟨s1, s2, s3, s4⟩ := id h
      show SP K P k b (D + 1) True (if (O (k + 1) b).1 ≠ 0 then _ else _)
      by_cases z : (O (k + 1) b).1 = 0
      · rw [if_neg (fun w => w z)]
        obtain ⟨t1, t2, t3, v, v1, v2, v3⟩ := s3 z
        refine ⟨?_, s2, fun _ => ⟨?_, ?_, ?_, fun ν => 1 - v ν, fun ν ν' e => by show 1 - v ν' = 1 - v ν; rw [v1 _ _ e], fun t ν => ?_, fun ν => ⟨(v3 ν).1.app FrC.not, (v3 ν).2.app FrR.not⟩⟩, fun y => absurd rfl y⟩
        · show k ≤ (O (k + 1) b).2.1; omega
        · show k < (O (k + 1) b).2.1; omega
        · show (_ ++ [_]).length + k ≤ (O (k + 1) b).2.1
          rw [List.length_append, List.length_singleton]; omega
        · show 2 * (_ ++ [_]).length + 3 * P k ≤ 3 * P (O (k + 1) b).2.1 + 1
          rw [List.length_append, List.length_singleton]; omega
        · show 1 - v ν = 0 ∨ 1 - v ν = 1
          obtain e | e := v2 trivial ν <;> rw [e]
          · exact Or.inr (by decide)
          · exact Or.inl (by decide)
      · rw [if_pos z]
        exact SP_ft h (by omega) z
  rw [if_neg h1]
  by_cases h3 : K k = 91
  · rw [if_pos h3]
    cases hsub : sub with
    | none => exact SP_fl o (by decide) (by decide)
    | some O =>
      have o1 : OKk K (k + 1) := o.s (by rw [h3]; decide) (by rw [h3]; decide)
      have p1 := T.1 k o1
      have h := SP_te T (hs O hsub) (k + 1) b o1 (by omega)
      obtain ⟨s1, s2, s3, s4⟩ := id h
      show SP K P k b (D + 1) True (if (teR K O (k + 1) b).1 ≠ 0 then _ else _)
      by_cases z : (teR K O (k + 1) b).1 = 0
      · rw [if_neg (fun w => w z)]
        obtain ⟨t1, t2, t3, t4⟩ := s3 z
        by_cases w : K (teR K O (k + 1) b).2.1 = 93
        · rw [if_pos w]
          have o2 : OKk K ((teR K O (k + 1) b).2.1 + 1) := s2.s (by rw [w]; decide) (by rw [w]; decide)
          have p2 := T.1 _ o2
          refine ⟨?_, o2, fun _ => ⟨?_, ?_, ?_, t4⟩, fun y => absurd rfl y⟩
          · show k ≤ (teR K O (k + 1) b).2.1 + 1; omega
          · show k < (teR K O (k + 1) b).2.1 + 1; omega
          · show (teR K O (k + 1) b).2.2.1.length + k ≤ (teR K O (k + 1) b).2.1 + 1; omega
          · show 2 * (teR K O (k + 1) b).2.2.2.length + 3 * P k ≤ 3 * P ((teR K O (k + 1) b).2.1 + 1) + 1; omega
        · rw [if_neg w]
          exact SP_ft (SP_fl (b := b) (D := D) (tst := True) s2 (by decide) (by decide)) (by omega) (fl_n (by decide))
      · rw [if_pos z]
        exact SP_ft h (by omega) z
  · rw [if_neg h3]
    exact SP_cm T hS k b o hb2
theorem SubOK.up {D D' : Nat} {tst : Prop} {S : Nat → Nat → RP} (h : SubOK K P D tst S) (hD : D ≤ D') : SubOK K P D' tst S := fun k b o hb2 => (h k b o hb2).up hD
theorem SP_one (T : TkP K V P) : ∀ n, n ≤ 5 → SubOK K P 14 True (oneR K V n)
  | 0, _ => SP_on T (D := 13) (fun S e => nomatch e) ((SP_sum T 0).up (by decide))
  | n + 1, h => SP_on T (D := 13) (fun S e => by injection e with e; rw [← e]; exact SP_one T n (by omega)) ((SP_sum T (n + 1)).up (by omega))
theorem SP_test (T : TkP K V P) {n : Nat} (h : n ≤ 5) : SubOK K P 14 True (teR K (oneR K V n)) := SP_te T (SP_one T n h)
end PARSE
