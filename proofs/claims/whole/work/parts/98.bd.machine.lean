/-! rights, worked: the class's way (each sign behind what it joins), the reference's way (with jumps) -/
def jnC (s : Int32) (a b : Int64) : Int64 := if -s = 42 then a * b else if -s = 43 then a + b else if -s = 45 then a - b else if -s = 60 then (if b ≤ a then 0 else 1) else if -s = 61 then (if a = b then 1 else 0) else if -s = 62 then (if a ≤ b then 0 else 1) else if s = -20 then a ||| b else a &&& b
def opC (s : Int32) : List Int64 → List Int64
  | [] => []
  | [a] => if s = -22 then [1 - a] else [a]
  | b :: a :: t => if s = -22 then (1 - b) :: a :: t else jnC s a b :: t
def stC (ν : Nat → Int64) (s : Int32) (st : List Int64) : List Int64 := if s < -7 then opC s st else (if s < 0 then ν (-1 - s).toNatClampNeg else s.toInt64) :: st
def runC (ν : Nat → Int64) (f : Nat → Int32) : Nat → Nat → List Int64 → List Int64
  | _, 0, st => st
  | k, n + 1, st => runC ν f (k + 1) n (stC ν (f k) st)
def runL (ν : Nat → Int64) : List Int32 → List Int64 → List Int64
  | [], st => st
  | s :: x, st => runL ν x (stC ν s st)
theorem runL_app {ν : Nat → Int64} : ∀ {x y : List Int32} {st : List Int64}, runL ν (x ++ y) st = runL ν y (runL ν x st)
  | [], _, _ => rfl
  | s :: x, y, st => runL_app (x := x)
theorem runC_L {ν : Nat → Int64} {f : Nat → Int32} : ∀ (x : List Int32) (k : Nat) (st : List Int64), (∀ i, i < x.length → f (k + i) = x.getD i 0) → runC ν f k x.length st = runL ν x st
  | [], _, _, _ => rfl
  | s :: x, k, st, h => by
    have h0 := h 0 (by simp)
    have : f k = s := h0
    show runC ν f (k + 1) x.length (stC ν (f k) st) = runL ν x (stC ν s st)
    rw [this]
    refine runC_L x (k + 1) _ fun i hi => ?_
    have := h (i + 1) (by simp; omega)
    rw [show k + 1 + i = k + (i + 1) by omega, this]; rfl
def FrC (ν : Nat → Int64) (x : List Int32) (pre post : List Int64) : Prop := ∀ st, runL ν x (pre ++ st) = post ++ st
theorem FrC.app {ν : Nat → Int64} {x y : List Int32} {p m q : List Int64} (a : FrC ν x p m) (b : FrC ν y m q) : FrC ν (x ++ y) p q := fun st => by rw [runL_app, a st, b st]
theorem FrC.on {ν : Nat → Int64} {x : List Int32} {q u : List Int64} (a : FrC ν x [] q) : FrC ν x u (q ++ u) := fun st => by
  have := a (u ++ st)
  rw [List.nil_append] at this
  rw [this, List.append_assoc]
theorem FrC.nil {ν : Nat → Int64} {p : List Int64} : FrC ν [] p p := fun _ => rfl
theorem FrC.num {ν : Nat → Int64} {n : Nat} (hn : n < 2 ^ 31) : FrC ν [nI n] [] [(nI n).toInt64] := fun st => by
  show stC ν (nI n) st = (nI n).toInt64 :: st
  rw [stC, if_neg (fun z => absurd (fa_trans z (show (-7 : Int32) ≤ 0 by decide)) (nI_pos hn)), if_neg (nI_pos hn)]
theorem nm_7 : ∀ j, j < 7 → ¬ ((-1 : Int32) - nI j < -7) ∧ ((-1 : Int32) - nI j < 0) ∧ ((-1 : Int32) - ((-1 : Int32) - nI j)).toNatClampNeg = j := by decide +kernel
theorem stC_nm {ν : Nat → Int64} {j : Nat} (hj : j < 7) (st : List Int64) : stC ν (-1 - nI j) st = ν j :: st := by
  obtain ⟨h1, h2, h3⟩ := nm_7 j hj
  rw [stC, if_neg h1, if_pos h2, h3]
theorem FrC.name {ν : Nat → Int64} {j : Nat} (hj : j < 7) : FrC ν [-1 - nI j] [] [ν j] := fun st => by
  show stC ν (-1 - nI j) st = ν j :: st
  exact stC_nm hj st
theorem FrC.op {ν : Nat → Int64} {s : Int32} {a b : Int64} (h1 : s < -7) (h2 : s ≠ -22) : FrC ν [s] [b, a] [jnC s a b] := fun st => by
  show stC ν s (b :: a :: st) = _
  rw [stC, if_pos h1]
  show (if s = -22 then (1 - b) :: a :: st else jnC s a b :: st) = _
  rw [if_neg h2]; rfl
theorem FrC.not {ν : Nat → Int64} {a : Int64} : FrC ν [-22] [a] [1 - a] := fun st => by
  show stC ν (-22) (a :: st) = _
  rw [stC, if_pos (by decide)]
  cases st with
  | nil => rfl
  | cons b t => rfl
/-- the reference: a step, and steps that may be taken -/
def twR (c : Int32) (x y : Int64) : Int64 := if c = 4 then x + y else if c = 5 then x - y else if c = 6 then x * y else if c = 7 then (if y ≤ x then 0 else 1) else if c = 8 then (if x ≤ y then 0 else 1) else (if x = y then 1 else 0)
abbrev SR2 : Type := Nat × List Int64
def stR (ν : Nat → Int64) (g : Nat → Int32) (s : SR2) : SR2 :=
  if 20 ≤ g s.1 then (s.1 + 1, ν (g s.1 - 20).toNatClampNeg :: s.2)
  else if g s.1 = 0 then (s.1 + 2, (g (s.1 + 1)).toInt64 :: s.2)
  else match s.2 with
    | [] => (s.1, [])
    | b :: t => if g s.1 = 1 then (if b = 0 then (s.1 + 2, t) else ((g (s.1 + 1)).toNatClampNeg, b :: t))
      else if g s.1 = 2 then (if b = 0 then ((g (s.1 + 1)).toNatClampNeg, b :: t) else (s.1 + 2, t))
      else if g s.1 = 3 then (s.1 + 1, (1 - b) :: t)
      else match t with
        | [] => (s.1, [])
        | a :: u => (s.1 + 1, twR (g s.1) a b :: u)
def VlR (g : Nat → Int32) (e M : Nat) (s : SR2) : Prop :=
  s.1 < e ∧ (20 ≤ g s.1 → (∃ j, j < 7 ∧ g s.1 = nI (20 + j)) ∧ s.2.length < M) ∧ (g s.1 = 0 → s.1 + 1 < e ∧ s.2.length < M) ∧
  (g s.1 = 1 ∨ g s.1 = 2 → s.1 + 1 < e ∧ 1 ≤ s.2.length ∧ ∃ k, k ≤ e ∧ g (s.1 + 1) = nI k) ∧ (g s.1 = 3 → 1 ≤ s.2.length) ∧ (¬ 20 ≤ g s.1 → g s.1 ≠ 0 → g s.1 ≠ 1 → g s.1 ≠ 2 → g s.1 ≠ 3 → 2 ≤ s.2.length)
def OkR (ν : Nat → Int64) (g : Nat → Int32) (e M : Nat) : Nat → SR2 → SR2 → Prop
  | 0, s, t => s = t
  | n + 1, s, t => VlR g e M s ∧ OkR ν g e M n (stR ν g s) t
theorem OkR.tr {ν : Nat → Int64} {g : Nat → Int32} {e M : Nat} {m : Nat} : ∀ {n : Nat} {s t u : SR2}, OkR ν g e M n s t → OkR ν g e M m t u → OkR ν g e M (n + m) s u
  | 0, s, t, u, a, b => by
    have : s = t := a
    rw [Nat.zero_add, this]; exact b
  | n + 1, s, t, u, a, b => by
    rw [Nat.succ_add]
    exact ⟨a.1, OkR.tr a.2 b⟩
theorem VlR.mono {g : Nat → Int32} {e M e' M' : Nat} {s : SR2} (h : VlR g e M s) (he : e ≤ e') (hM : M ≤ M') : VlR g e' M' s := by
  obtain ⟨h1, h2, h3, h4, h5, h6⟩ := h
  refine ⟨by omega, fun z => ⟨(h2 z).1, by have := (h2 z).2; omega⟩, fun z => ⟨by have := (h3 z).1; omega, by have := (h3 z).2; omega⟩, fun z => ?_, h5, h6⟩
  obtain ⟨a, b, k, c, d⟩ := h4 z
  exact ⟨by omega, b, k, by omega, d⟩
theorem OkR.mono {ν : Nat → Int64} {g : Nat → Int32} {e M e' M' : Nat} (he : e ≤ e') (hM : M ≤ M') : ∀ {n : Nat} {s t : SR2}, OkR ν g e M n s t → OkR ν g e' M' n s t
  | 0, _, _, a => a
  | _ + 1, _, _, a => ⟨a.1.mono he hM, OkR.mono he hM a.2⟩
def FrR (ν : Nat → Int64) (x : List Int32) (b D : Nat) (pre post : List Int64) : Prop := ∃ n, ∀ (g : Nat → Int32) (st : List Int64), (∀ i, i < x.length → g (b + i) = x.getD i 0) → OkR ν g (b + x.length) (st.length + D) n (b, pre ++ st) (b + x.length, post ++ st)
section FRR
variable {ν : Nat → Int64} {x y : List Int32} {b D : Nat} {p m q : List Int64}
theorem FrR.nil : FrR ν [] b D p p := ⟨0, fun _ _ _ => rfl⟩
theorem FrR.app (h1 : FrR ν x b D p m) (h2 : FrR ν y (b + x.length) D m q) : FrR ν (x ++ y) b D p q := by
  obtain ⟨n1, h1⟩ := h1
  obtain ⟨n2, h2⟩ := h2
  refine ⟨n1 + n2, fun g st hg => ?_⟩
  have a1 := h1 g st fun i hi => by
    rw [hg i (by rw [List.length_append]; omega), List.getD_eq_getElem?_getD, List.getElem?_append_left hi, List.getD_eq_getElem?_getD]
  have a2 := h2 g st fun i hi => by
    rw [Nat.add_assoc, hg (x.length + i) (by rw [List.length_append]; omega), List.getD_eq_getElem?_getD, List.getElem?_append_right (by omega), List.getD_eq_getElem?_getD, show x.length + i - x.length = i by omega]
  rw [List.length_append, ← Nat.add_assoc]
  exact (a1.mono (by omega) (Nat.le_refl _)).tr a2
theorem FrR.up {D' : Nat} (h : FrR ν x b D p q) (hD : D ≤ D') : FrR ν x b D' p q := by
  obtain ⟨n, h⟩ := h
  exact ⟨n, fun g st hg => (h g st hg).mono (Nat.le_refl _) (by omega)⟩
/-- on what lies below -/
theorem FrR.on {u : List Int64} (h : FrR ν x b D [] q) : FrR ν x b (D + u.length) u (q ++ u) := by
  obtain ⟨n, h⟩ := h
  refine ⟨n, fun g st hg => ?_⟩
  have := h g (u ++ st) hg
  rw [List.nil_append] at this
  rw [List.append_assoc]
  exact this.mono (Nat.le_refl _) (by rw [List.length_append]; omega)
theorem FrR.num {n : Nat} (hD : 1 ≤ D) : FrR ν [0, nI n] b D [] [(nI n).toInt64] := by
  refine ⟨1, fun g st hg => ?_⟩
  have g0 : g b = 0 := hg 0 (by simp)
  have g1 : g (b + 1) = nI n := hg 1 (by simp)
  have e : stR ν g (b, [] ++ st) = (b + 2, [(nI n).toInt64] ++ st) := by
    simp only [stR, List.nil_append, g0, g1]
    rw [if_neg (by decide), if_pos trivial]; rfl
  refine ⟨⟨by show b < b + 2; omega, fun z => ?_, fun _ => ⟨by show b + 1 < b + 2; omega, by show st.length < st.length + D; omega⟩, fun z => ?_, fun z => ?_, fun _ z => ?_⟩, e⟩
  · have z : 20 ≤ g b := z
    rw [g0] at z; exact absurd z (by decide)
  · have z : g b = 1 ∨ g b = 2 := z
    rw [g0] at z
    exact absurd z (by decide)
  · have z : g b = 3 := z
    rw [g0] at z; exact absurd z (by decide)
  · exact absurd g0 z
theorem lit_20 (j : Nat) : nI (20 + j) - 20 = nI j := by
  rw [lit_nI 20, pk_sub (by omega), show 20 + j - 20 = j by omega]
theorem FrR.name {j : Nat} (hj : j < 7) (hD : 1 ≤ D) : FrR ν [nI (20 + j)] b D [] [ν j] := by
  refine ⟨1, fun g st hg => ?_⟩
  have g0 : g b = nI (20 + j) := hg 0 (by simp)
  have l : (20 : Int32) ≤ g b := by rw [g0, lit_nI 20]; exact nI_le (by omega) (by omega)
  have e : stR ν g (b, [] ++ st) = (b + 1, [ν j] ++ st) := by
    simp only [stR, List.nil_append]
    rw [if_pos l, g0, lit_20, nI_clamp (by omega)]; rfl
  have ne : ∀ k, k < 20 → g b ≠ nI k := fun k hk z => by
    rw [g0] at z
    have := nI_inj (by omega) (by omega) z
    omega
  refine ⟨⟨by show b < b + 1; omega, fun _ => ⟨⟨j, hj, g0⟩, by show st.length < st.length + D; omega⟩, fun z => absurd z (ne 0 (by omega)), fun z => ?_, fun z => absurd z (ne 3 (by omega)), fun z => absurd l z⟩, e⟩
  obtain z | z := z
  · exact absurd z (ne 1 (by omega))
  · exact absurd z (ne 2 (by omega))
theorem FrR.op {c : Nat} {u v : Int64} (h1 : 4 ≤ c) (h2 : c < 20) : FrR ν [nI c] b D [v, u] [twR (nI c) u v] := by
  refine ⟨1, fun g st hg => ?_⟩
  have g0 : g b = nI c := hg 0 (by simp)
  have l : ¬ (20 : Int32) ≤ g b := by rw [g0, lit_nI 20]; exact nI_ge (by omega) (by omega)
  have ne : ∀ k, k < 4 → g b ≠ nI k := fun k hk z => by
    rw [g0] at z
    have := nI_inj (by omega) (by omega) z
    omega
  have e : stR ν g (b, [v, u] ++ st) = (b + 1, [twR (nI c) u v] ++ st) := by
    show stR ν g (b, v :: u :: st) = (b + 1, twR (nI c) u v :: st)
    simp only [stR]
    rw [if_neg l, if_neg (show ¬ g b = 0 from ne 0 (by omega)), if_neg (show ¬ g b = 1 from ne 1 (by omega)), if_neg (show ¬ g b = 2 from ne 2 (by omega)), if_neg (show ¬ g b = 3 from ne 3 (by omega)), g0]
  refine ⟨⟨by show b < b + 1; omega, fun z => absurd z l, fun z => absurd z (ne 0 (by omega)), fun z => ?_, fun z => absurd z (ne 3 (by omega)), fun _ _ _ _ _ => by show 2 ≤ (v :: u :: st).length; simp⟩, e⟩
  obtain z | z := z
  · exact absurd z (ne 1 (by omega))
  · exact absurd z (ne 2 (by omega))
theorem FrR.not {v : Int64} : FrR ν [3] b D [v] [1 - v] := by
  refine ⟨1, fun g st hg => ?_⟩
  have g0 : g b = 3 := hg 0 (by simp)
  have e : stR ν g (b, [v] ++ st) = (b + 1, [1 - v] ++ st) := by
    show stR ν g (b, v :: st) = (b + 1, (1 - v) :: st)
    simp only [stR, g0]
    rw [if_neg (by decide), if_neg (by decide), if_neg (by decide), if_neg (by decide), if_pos trivial]
  refine ⟨⟨by show b < b + 1; omega, fun z => ?_, fun z => ?_, fun z => ?_, fun _ => by show 1 ≤ (v :: st).length; simp, fun _ _ _ _ z => absurd g0 z⟩, e⟩
  · have z : 20 ≤ g b := z
    rw [g0] at z; exact absurd z (by decide)
  · have z : g b = 0 := z
    rw [g0] at z; exact absurd z (by decide)
  · have z : g b = 1 ∨ g b = 2 := z
    rw [g0] at z; exact absurd z (by decide)
/-- or, and: the second is worked if the first does not settle it -/
theorem FrR.jump {c : Int32} {v w : Int64} (hc : c = 1 ∨ c = 2) (hb : b + 2 + x.length < 2 ^ 31) (h : FrR ν x (b + 2) D [] [w]) : FrR ν (c :: nI (b + 2 + x.length) :: x) b D [v] [if c = 1 then (if v = 0 then w else v) else (if v = 0 then v else w)] := by
  obtain ⟨n, h⟩ := h
  by_cases jm : (c = 1 ∧ v ≠ 0) ∨ (c = 2 ∧ v = 0)
  · refine ⟨1, fun g st hg => ?_⟩
    have g0 : g b = c := hg 0 (by simp)
    have g1 : g (b + 1) = nI (b + 2 + x.length) := hg 1 (by simp)
    have ev : (if c = 1 then (if v = 0 then w else v) else (if v = 0 then v else w)) = v := by
      obtain ⟨z1, z2⟩ | ⟨z1, z2⟩ := jm
      · rw [if_pos z1, if_neg z2]
      · rw [if_neg (by rw [z1]; decide), if_pos z2]
    have len : b + (c :: nI (b + 2 + x.length) :: x).length = b + 2 + x.length := by simp; omega
    have e : stR ν g (b, [v] ++ st) = (b + 2 + x.length, [v] ++ st) := by
      show stR ν g (b, v :: st) = (b + 2 + x.length, v :: st)
      simp only [stR, g0, g1]
      obtain ⟨z1, z2⟩ | ⟨z1, z2⟩ := jm
      · rw [z1, if_neg (by decide), if_neg (by decide), if_pos rfl, if_neg z2, nI_clamp hb]
      · rw [z1, if_neg (by decide), if_neg (by decide), if_neg (by decide), if_pos rfl, if_pos z2, nI_clamp hb]
    rw [len, ev]
    refine ⟨⟨by show b < _; omega, fun z => ?_, fun z => ?_, fun _ => ⟨by show b + 1 < _; omega, by show 1 ≤ (v :: st).length; simp, b + 2 + x.length, Nat.le_refl _, g1⟩, fun z => ?_, fun _ _ z z2 => ?_⟩, e⟩
    · have z : 20 ≤ g b := z
      rw [g0] at z; obtain rfl | rfl := hc <;> exact absurd z (by decide)
    · have z : g b = 0 := z
      rw [g0] at z; obtain rfl | rfl := hc <;> exact absurd z (by decide)
    · have z : g b = 3 := z
      rw [g0] at z; obtain rfl | rfl := hc <;> exact absurd z (by decide)
    · obtain rfl | rfl := hc
      · exact absurd g0 z
      · exact absurd g0 z2
  · refine ⟨1 + n, fun g st hg => ?_⟩
    have g0 : g b = c := hg 0 (by simp)
    have g1 : g (b + 1) = nI (b + 2 + x.length) := hg 1 (by simp)
    have ev : (if c = 1 then (if v = 0 then w else v) else (if v = 0 then v else w)) = w := by
      obtain z1 | z1 := hc
      · have : v = 0 := Classical.byContradiction fun y => jm (Or.inl ⟨z1, y⟩)
        rw [if_pos z1, if_pos this]
      · have : v ≠ 0 := fun y => jm (Or.inr ⟨z1, y⟩)
        rw [if_neg (by rw [z1]; decide), if_neg this]
    have len : b + (c :: nI (b + 2 + x.length) :: x).length = b + 2 + x.length := by simp; omega
    have e : stR ν g (b, [v] ++ st) = (b + 2, [] ++ st) := by
      show stR ν g (b, v :: st) = (b + 2, st)
      simp only [stR, g0, g1]
      obtain z1 | z1 := hc
      · have : v = 0 := Classical.byContradiction fun y => jm (Or.inl ⟨z1, y⟩)
        rw [z1, if_neg (by decide), if_neg (by decide), if_pos rfl, if_pos this]
      · have : v ≠ 0 := fun y => jm (Or.inr ⟨z1, y⟩)
        rw [z1, if_neg (by decide), if_neg (by decide), if_neg (by decide), if_pos rfl, if_neg this]
    rw [len, ev]
    have a2 := h g st fun i hi => by
      have := hg (i + 2) (by simp; omega)
      rw [show b + 2 + i = b + (i + 2) by omega, this]; rfl
    refine OkR.tr (n := 1) (t := (b + 2, [] ++ st)) ⟨⟨by show b < _; omega, fun z => ?_, fun z => ?_, fun _ => ⟨by show b + 1 < _; omega, by show 1 ≤ (v :: st).length; simp, b + 2 + x.length, Nat.le_refl _, g1⟩, fun z => ?_, fun _ _ z z2 => ?_⟩, e⟩ a2
    · have z : 20 ≤ g b := z
      rw [g0] at z; obtain rfl | rfl := hc <;> exact absurd z (by decide)
    · have z : g b = 0 := z
      rw [g0] at z; obtain rfl | rfl := hc <;> exact absurd z (by decide)
    · have z : g b = 3 := z
      rw [g0] at z; obtain rfl | rfl := hc <;> exact absurd z (by decide)
    · obtain rfl | rfl := hc
      · exact absurd g0 z
      · exact absurd g0 z2
end FRR
