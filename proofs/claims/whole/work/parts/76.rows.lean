/-! rows of parts: all, in order -/
def upr (r : Nat → Nat) (i p : Nat) : Nat → Nat := fun k => if k = i then p else r k
theorem upr_k {r : Nat → Nat} {i p : Nat} : upr r i p i = p := if_pos rfl
theorem upr_j {r : Nat → Nat} {i p k : Nat} (h : k ≠ i) : upr r i p k = r k := if_neg h
theorem upr_same {r : Nat → Nat} {i : Nat} : upr r i (r i) = r := funext fun k => by
  by_cases h : k = i
  · rw [h, upr_k]
  · rw [upr_j h]
theorem upr_twice {r : Nat → Nat} {i p q : Nat} : upr (upr r i p) i q = upr r i q := funext fun k => by
  by_cases h : k = i
  · rw [h, upr_k, upr_k]
  · rw [upr_j h, upr_j h, upr_j h]
def itr {St : Type} (F : Nat → St → St) : Nat → St → St
  | 0, s => s
  | k + 1, s => F k (itr F k s)
def enumN {St : Type} (leaf : (Nat → Nat) → St → St) : Nat → Nat → (Nat → Nat) → Nat → St → St
  | 0, _, r, _, s => leaf r s
  | f + 1, i, r, u, s => itr (fun p s => enumN leaf f (i + 1) (upr r i p) (max u (p + 1)) s) (u + 1) s
def mxr (r : Nat → Nat) : Nat → Nat
  | 0 => 0
  | k + 1 => max (mxr r k) (r k)
def nxr (r : Nat → Nat) : Nat → Bool × (Nat → Nat)
  | 0 => (false, r)
  | j + 1 => if r (j + 1) ≤ mxr r (j + 1) then (true, upr r (j + 1) (r (j + 1) + 1)) else nxr (upr r (j + 1) 0) j
theorem mxr_cg {r q : Nat → Nat} : ∀ {i : Nat}, (∀ k, k < i → r k = q k) → mxr r i = mxr q i
  | 0, _ => rfl
  | i + 1, h => by rw [mxr, mxr, mxr_cg fun k hk => h k (by omega), h i (Nat.lt_succ_self i)]
/-- the next row, and the next, gives them all -/
theorem odo {St : Type} {leaf : (Nat → Nat) → St → St} {n : Nat} {P : Bool → (Nat → Nat) → St → Prop} {Top : (Nat → Nat) → St → Prop}
    (hTop : ∀ r s, P (nxr r (n - 1)).1 (nxr r (n - 1)).2 (leaf r s) → Top r s) (hMore : ∀ r s, Top r s → P true r s) :
    ∀ (f i : Nat) (r : Nat → Nat) (s : St), i + f = n → 1 ≤ i → (∀ k, i ≤ k → r k = 0) → P (nxr r (i - 1)).1 (nxr r (i - 1)).2 (enumN leaf f i r (mxr r i + 1) s) → Top r s := by
  intro f
  induction f with
  | zero =>
    intro i r s e h1 hz hP
    have : i = n := by omega
    subst this
    exact hTop r s hP
  | succ f ih =>
    intro i r s e h1 hz hP
    rw [enumN] at hP
    have inner : ∀ (m p : Nat), p + m = mxr r i + 1 → Top (upr r i p) (itr (fun p s => enumN leaf f (i + 1) (upr r i p) (max (mxr r i + 1) (p + 1)) s) p s) := by
      intro m
      induction m with
      | zero =>
        intro p ep
        have em : mxr (upr r i p) i = mxr r i := mxr_cg fun k hk => upr_j (by omega)
        refine ih (i + 1) (upr r i p) _ (by omega) (by omega) (fun k hk => by rw [upr_j (by omega)]; exact hz k (by omega)) ?_
        have e1 : mxr (upr r i p) (i + 1) = p := by rw [mxr, em, upr_k]; omega
        have e2 : nxr (upr r i p) (i + 1 - 1) = nxr r (i - 1) := by
          obtain ⟨j, rfl⟩ : ∃ j, i = j + 1 := ⟨i - 1, by omega⟩
          rw [Nat.add_sub_cancel, Nat.add_sub_cancel, nxr, upr_k, em, if_neg (by omega), upr_twice]
          have : upr r (j + 1) 0 = r := by
            have := upr_same (r := r) (i := j + 1)
            rw [hz (j + 1) (Nat.le_refl _)] at this
            exact this
          rw [this]
        rw [e1, e2]
        have e3 : mxr r i + 1 = p := by omega
        rw [e3] at hP
        rw [itr] at hP
        have e4 : max p (p + 1) = p + 1 := by omega
        rw [e4] at hP
        rw [e3]
        exact hP
      | succ m ih2 =>
        intro p ep
        have em : mxr (upr r i p) i = mxr r i := mxr_cg fun k hk => upr_j (by omega)
        refine ih (i + 1) (upr r i p) _ (by omega) (by omega) (fun k hk => by rw [upr_j (by omega)]; exact hz k (by omega)) ?_
        have e1 : mxr (upr r i p) (i + 1) = mxr r i := by rw [mxr, em, upr_k]; omega
        have e2 : nxr (upr r i p) (i + 1 - 1) = (true, upr r i (p + 1)) := by
          obtain ⟨j, rfl⟩ : ∃ j, i = j + 1 := ⟨i - 1, by omega⟩
          rw [Nat.add_sub_cancel, nxr, upr_k, em, if_pos (by omega), upr_twice]
        rw [e1, e2]
        refine hMore _ _ ?_
        have := ih2 (p + 1) (by omega)
        rw [itr] at this
        have e4 : max (mxr r i + 1) (p + 1) = mxr r i + 1 := by omega
        rw [e4] at this
        exact this
    have := inner (mxr r i + 1) 0 (by omega)
    rw [itr] at this
    have e0 : upr r i 0 = r := by
      have := upr_same (r := r) (i := i)
      rw [hz i (Nat.le_refl _)] at this
      exact this
    rw [e0] at this
    exact this
section ROWS
variable {St : Type} {bad one : Nat → Nat → Bool} {g : Nat → Nat → Int32} {n : Nat}
/-- two members may stand so -/
def pok (bad one : Nat → Nat → Bool) (r : Nat → Nat) (i k : Nat) : Bool := if r i = r k then !bad i k else !one i k
def okj (bad one : Nat → Nat → Bool) (r : Nat → Nat) (i : Nat) : Nat → Bool
  | 0 => true
  | j + 1 => okj bad one r i j && pok bad one r i j
def okp (bad one : Nat → Nat → Bool) (r : Nat → Nat) : Nat → Bool
  | 0 => true
  | i + 1 => okp bad one r i && okj bad one r i i
def gsm (g : Nat → Nat → Int32) (r : Nat → Nat) (i : Nat) : Nat → Int32
  | 0 => 0
  | j + 1 => gsm g r i j + (if r i = r j then g i j else 0)
def rwp (g : Nat → Nat → Int32) (r : Nat → Nat) : Nat → Int32
  | 0 => 0
  | i + 1 => rwp g r i + gsm g r i i
theorem okj_cg {r q : Nat → Nat} {i : Nat} : ∀ {j : Nat}, j ≤ i → (∀ k, k ≤ i → r k = q k) → okj bad one r i j = okj bad one q i j
  | 0, _, _ => rfl
  | j + 1, hj, h => by rw [okj, okj, okj_cg (by omega) h, pok, pok, h i (Nat.le_refl _), h j (by omega)]
theorem okp_cg {r q : Nat → Nat} : ∀ {i : Nat}, (∀ k, k < i → r k = q k) → okp bad one r i = okp bad one q i
  | 0, _ => rfl
  | i + 1, h => by rw [okp, okp, okp_cg fun k hk => h k (by omega), okj_cg (Nat.le_refl _) fun k hk => h k (by omega)]
theorem gsm_cg {r q : Nat → Nat} {i : Nat} : ∀ {j : Nat}, j ≤ i → (∀ k, k ≤ i → r k = q k) → gsm g r i j = gsm g q i j
  | 0, _, _ => rfl
  | j + 1, hj, h => by rw [gsm, gsm, gsm_cg (by omega) h, h i (Nat.le_refl _), h j (by omega)]
theorem rwp_cg {r q : Nat → Nat} : ∀ {i : Nat}, (∀ k, k < i → r k = q k) → rwp g r i = rwp g q i
  | 0, _ => rfl
  | i + 1, h => by rw [rwp, rwp, rwp_cg fun k hk => h k (by omega), gsm_cg (Nat.le_refl _) fun k hk => h k (by omega)]
/-- a leaf that looks only at rows that may stand -/
def lfo (bad one : Nat → Nat → Bool) (n : Nat) (act : (Nat → Nat) → St → St) (r : Nat → Nat) (s : St) : St := if okp bad one r n then act r s else s
theorem okp_down {r : Nat → Nat} {i : Nat} : ∀ {n : Nat}, i ≤ n → okp bad one r n = true → okp bad one r i = true
  | 0, h, q => by
    have : i = 0 := by omega
    subst this; exact q
  | n + 1, h, q => by
    by_cases e : i = n + 1
    · subst e; exact q
    · rw [okp, Bool.and_eq_true] at q
      exact okp_down (by omega) q.1
theorem itr_id {F : Nat → St → St} (h : ∀ p s, F p s = s) : ∀ k s, itr F k s = s
  | 0, _ => rfl
  | k + 1, s => by rw [itr, h, itr_id h k s]
theorem enum_bad {act : (Nat → Nat) → St → St} : ∀ (f i : Nat) (r : Nat → Nat) (u : Nat) (s : St), i + f = n → okp bad one r i = false → enumN (lfo bad one n act) f i r u s = s := by
  intro f
  induction f with
  | zero =>
    intro i r u s e hb'
    have : i = n := by omega
    subst this
    rw [enumN, lfo, hb', if_neg (by decide)]
  | succ f ih =>
    intro i r u s e hb'
    rw [enumN]
    refine itr_id (fun p s => ih (i + 1) (upr r i p) _ s (by omega) ?_) _ _
    rw [okp, okp_cg (q := r) fun k hk => upr_j (by omega), hb', Bool.false_and]
end ROWS
