/-! words of a text -/
section LEX
def isLt (c : Int32) : Bool := decide (97 ≤ c) && decide (c ≤ 122)
def isDg (c : Int32) : Bool := decide (48 ≤ c) && decide (c ≤ 57)
def isBl (c : Int32) : Bool := decide (c = 10) || decide (c = 32)
def isKn (c : Int32) : Bool := decide (c = 40) || decide (c = 41) || decide (c = 42) || decide (c = 43) || decide (c = 45) || decide (c = 59) || decide (c = 60) || decide (c = 61) || decide (c = 62) || decide (c = 91) || decide (c = 93)
def rn (f : Int32 → Bool) (t : Nat → Int32) (n : Nat) : Nat → Nat → Nat
  | 0, p => p
  | m + 1, p => if p < n ∧ f (t p) = true then rn f t n m (p + 1) else p
def rnE (f : Int32 → Bool) (t : Nat → Int32) (n p : Nat) : Nat := rn f t n (n - p) p
variable {f : Int32 → Bool} {t : Nat → Int32} {n p b e w : Nat}
theorem rnE_s (h1 : p < n) (h2 : f (t p) = true) : rnE f t n p = rnE f t n (p + 1) := by
  rw [rnE, rnE, show n - p = (n - (p + 1)) + 1 by omega, rn, if_pos ⟨h1, h2⟩]
theorem rnE_e (h : ¬ (p < n ∧ f (t p) = true)) : rnE f t n p = p := by
  rw [rnE]
  cases e : n - p with
  | zero => rfl
  | succ m => rw [rn, if_neg h]
theorem rn_ge : ∀ m p, p ≤ rn f t n m p
  | 0, p => Nat.le_refl _
  | m + 1, p => by
    rw [rn]; split
    · exact Nat.le_trans (Nat.le_succ _) (rn_ge m (p + 1))
    · exact Nat.le_refl _
theorem rn_le : ∀ m p, p + m ≤ n → rn f t n m p ≤ n
  | 0, p, h => h
  | m + 1, p, h => by
    rw [rn]; split
    · exact rn_le m (p + 1) (by omega)
    · omega
theorem rnE_ge : p ≤ rnE f t n p := rn_ge _ _
theorem rnE_le (h : p ≤ n) : rnE f t n p ≤ n := rn_le _ _ (by omega)
theorem rnE_z : ∀ m p, n - p = m → ¬ (rnE f t n p < n ∧ f (t (rnE f t n p)) = true)
  | 0, p, h => by
    rw [rnE, h]
    show ¬ (p < n ∧ _)
    omega
  | m + 1, p, h => by
    by_cases q : p < n ∧ f (t p) = true
    · rw [rnE_s q.1 q.2]; exact rnE_z m (p + 1) (by omega)
    · rw [rnE_e q]; exact q
theorem rnE_in : ∀ m p, n - p = m → ∀ i, p ≤ i → i < rnE f t n p → f (t i) = true
  | 0, p, h, i, h1, h2 => by
    rw [rnE, h] at h2
    have h2 : i < p := h2
    omega
  | m + 1, p, h, i, h1, h2 => by
    by_cases q : p < n ∧ f (t p) = true
    · by_cases e : i = p
      · rw [e]; exact q.2
      · rw [rnE_s q.1 q.2] at h2
        exact rnE_in m (p + 1) (by omega) i (by omega) h2
    · rw [rnE_e q] at h2; omega
/-- a word, letter by letter -/
def wdB (t : Nat → Int32) (b e w : Nat) : Nat → Nat → Bool
  | 0, _ => true
  | m + 1, k => decide ((if b + k < e then t (b + k) else 32) = txb_28.getD (w * 7 + k) 0) && wdB t b e w m (k + 1)
def isWd (t : Nat → Int32) (b e w : Nat) : Bool := decide (e - b ≤ 7) && wdB t b e w 7 0
def wdF (t : Nat → Int32) (b e : Nat) : Nat → Int32
  | 0 => 14
  | w + 1 => if isWd t b e w = true then nI w else wdF t b e w
def dgV (t : Nat → Int32) (b : Nat) : Nat → Int32
  | 0 => 0
  | m + 1 => if m < 5 then dgV t b m * 10 + t (b + m) - 48 else dgV t b m
variable {h q g : Hp} {d k T : Nat} {X : String → Hp → Prop} {F : Int32 → Hp → Prop} {G : Hp → Prop}
def TxC (t : Nat → Int32) (h : Hp) : Prop := ∀ i, i < 300 → h.1 89 i = t i
theorem ok_isLt {c : Int32} (hd : 1 ≤ d) (hS : Std h.2.2) (hq : F (bI (isLt c)) h) : OKi d mX6_isLetter [.ref 73, .int c] h F X := by
  refine enX6_isLetter _ hd hS ⟨fun w => ?_, fun w => ⟨fun w2 => ?_, fun w2 => ?_⟩⟩
  · rw [isLt, decide_eq_false (Int32.not_le.mpr w)] at hq; exact hq
  · rw [isLt, decide_eq_false (Int32.not_le.mpr w2), Bool.and_false] at hq; exact hq
  · rw [isLt, decide_eq_true (Int32.not_lt.mp w), decide_eq_true (Int32.not_lt.mp w2)] at hq; exact hq
theorem ok_isDg {c : Int32} (hd : 1 ≤ d) (hS : Std h.2.2) (hq : F (bI (isDg c)) h) : OKi d mX6_isDigit [.ref 73, .int c] h F X := by
  refine enX6_isDigit _ hd hS ⟨fun w => ?_, fun w => ⟨fun w2 => ?_, fun w2 => ?_⟩⟩
  · rw [isDg, decide_eq_false (Int32.not_le.mpr w)] at hq; exact hq
  · rw [isDg, decide_eq_false (Int32.not_le.mpr w2), Bool.and_false] at hq; exact hq
  · rw [isDg, decide_eq_true (Int32.not_lt.mp w), decide_eq_true (Int32.not_lt.mp w2)] at hq; exact hq
theorem ok_isWord (hd : 9 ≤ d) (hS : Std h.2.2) (ht : TxC t h) (hw : w < 14) (hbe : b ≤ e) (he : e ≤ 300) (hq : F (bI (isWd t b e w)) h) : OKi d mX6_isWord [.ref 73, .int (nI w), .ref 89, .int (nI b), .int (nI e)] h F X := by
  have go : ∀ m k, k + m = 7 → F (bI (wdB t b e w m k)) h → E mX6_isWord 8 0 0 14 [(1, .int (nI w)), (2, .ref 89), (3, .int (nI b)), (4, .int (nI e)), (5, .int (nI k))] [] h (Qi F) X := by
    intro m
    induction m with
    | zero =>
      intro k e7 hF
      have : k = 7 := by omega
      subst this
      exact sgX6_isWord_14 _ _ _ _ (Nat.le_refl _) hS ⟨fun _ => hF, fun z => absurd (by decide) z⟩
    | succ m ih =>
      intro k e7 hF
      rw [wdB] at hF
      have vj : vp_in (nI (w * 7 + k)) txb_28.length := vin (show w * 7 + k < 98 by omega)
      have ej : nI w * 7 + nI k = nI (w * 7 + k) := by rw [lit_nI 7, pk_mul, nI_add]
      have no : ∀ c : Int32, ¬ c = txb_28.getD (w * 7 + k) 0 → c = (if b + k < e then t (b + k) else 32) → F 0 h := fun c z e2 => by
        rw [← e2, decide_eq_false z, Bool.false_and] at hF; exact hF
      have yes : ∀ c : Int32, c = txb_28.getD (w * 7 + k) 0 → c = (if b + k < e then t (b + k) else 32) → E mX6_isWord 8 0 0 14 [(1, .int (nI w)), (2, .ref 89), (3, .int (nI b)), (4, .int (nI e)), (5, .int (nI k + 1))] [] h (Qi F) X := fun c z e2 => by
        rw [← e2, decide_eq_true z, Bool.true_and] at hF
        rw [nI_1]
        exact ih (k + 1) (by omega) hF
      refine sgX6_isWord_14 _ _ _ _ (Nat.le_refl _) hS ⟨fun z => absurd z (by rw [lit_nI 7]; exact nI_ge (by omega) (by omega)), fun _ => ⟨fun z => ?_, fun z => ?_⟩⟩
      · rw [nI_add] at z
        have z := (nI_leI (by omega) (by omega)).mp z
        rw [ej]
        refine ok_charAtT tx_28 vj (by decide) hS ?_
        rw [nI_clamp (by omega)]
        exact ⟨fun y => yes 32 y (by rw [if_neg (by omega)]), fun y => no 32 y (by rw [if_neg (by omega)])⟩
      · rw [nI_add] at z
        have lt : b + k < e := Nat.not_le.mp fun y => z (nI_le y (by omega))
        rw [nI_add, ej, nI_clamp (by omega), ht _ (by omega)]
        refine ⟨vin (by omega), ok_charAtT tx_28 vj (by decide) hS ?_⟩
        rw [nI_clamp (by omega)]
        exact ⟨fun y => yes _ y (by rw [if_pos lt]), fun y => no _ y (by rw [if_pos lt])⟩
  refine enX6_isWord _ _ _ hd hS ⟨fun z => ?_, fun z => ?_⟩
  · rw [pk_sub hbe, lit_nI 7] at z
    have z := (nI_leI (by omega) (by omega)).mp z
    rw [isWd, decide_eq_true z, Bool.true_and] at hq
    exact go 7 0 rfl hq
  · rw [pk_sub hbe, lit_nI 7] at z
    rw [isWd, decide_eq_false (fun y => z (nI_le y (by omega))), Bool.false_and] at hq
    exact hq
end LEX
