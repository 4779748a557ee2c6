/-! the heaviest pair of marks that isn't joined yet -/
def mst (W : Nat → Int32) (f : Int32) : Int32 := if f = -1 then 0 else W f.toNatClampNeg
def pkS (W : Nat → Int32) (sep : Nat → Nat → Bool) (f : Int32) (a b : Nat) : Int32 := if mst W f < W (16 * a + b) ∧ sep a b = true then nI (16 * a + b) else f
def pkR (W : Nat → Int32) (sep : Nat → Nat → Bool) (f : Int32) (a : Nat) : Nat → Int32
  | 0 => f
  | b + 1 => if a < b then pkS W sep (pkR W sep f a b) a b else pkR W sep f a b
def pkA (W : Nat → Int32) (sep : Nat → Nat → Bool) (M : Nat) : Nat → Int32
  | 0 => -1
  | a + 1 => pkR W sep (pkA W sep M a) a M
theorem pkR_lo {W : Nat → Int32} {sep : Nat → Nat → Bool} {f : Int32} {a : Nat} : ∀ b, b ≤ a + 1 → pkR W sep f a b = f
  | 0, _ => rfl
  | b + 1, h => by
    rw [pkR, if_neg (by omega)]
    exact pkR_lo b (by omega)
theorem mst_n {W : Nat → Int32} {k : Nat} (hk : k < 2 ^ 31) : mst W (nI k) = W k := by
  have : ¬ nI k = -1 := fun z => nI_pos hk (by rw [z]; decide)
  rw [mst, if_neg this, nI_clamp hk]
section HEAVIEST
variable {σ h : Hp} {d : Nat} {X : String → Hp → Prop} {F : Int32 → Hp → Prop}
def sepC (h : Hp) (a b : Nat) : Bool := decide (((h.1 39 a) >>> (nI b &&& 31)) &&& (1 : Int32) = 0)
theorem lp_heavy1 (hS : Std h.2.2) (V : VS σ) (hm : h.1 1 5 = nI (nM σ)) {a : Nat} (ha : a < nM σ)
    (nx : E mX3_heaviest d 0 0 6 [(0, .ref 34), (1, .int (pkA (h.1 38) (sepC h) (nM σ) (a + 1))), (2, .int (mst (h.1 38) (pkA (h.1 38) (sepC h) (nM σ) (a + 1)))), (3, .int (nI (a + 1)))] [] h (Qi F) X) :
    ∀ (n b : Nat), b + n = nM σ → a < b → E mX3_heaviest d 0 0 22 [(0, .ref 34), (1, .int (pkR (h.1 38) (sepC h) (pkA (h.1 38) (sepC h) (nM σ) a) a b)), (2, .int (mst (h.1 38) (pkR (h.1 38) (sepC h) (pkA (h.1 38) (sepC h) (nM σ) a) a b))), (3, .int (nI a)), (4, .int (nI b))] [] h (Qi F) X := by
  have hM := V.m.2
  intro n
  induction n with
  | zero =>
    intro b e hab
    have : b = nM σ := by omega
    subst this
    refine sgX3_heaviest_22 _ _ _ _ (Nat.zero_le _) hS ⟨fun _ => ?_, fun z => absurd (by rw [hm]; exact nI_le (Nat.le_refl _) (by omega)) z⟩
    rw [nI_1]
    exact nx
  | succ n ih =>
    intro b e hab
    have hb' : b < nM σ := by omega
    have nx2 := ih (b + 1) (by omega) (by omega)
    have ei : nI a * (16 : Int32) + nI b = nI (16 * a + b) := by rw [lit_nI 16, pk_mul, nI_add, Nat.mul_comm]
    rw [pkR, if_pos hab] at nx2
    refine sgX3_heaviest_22 _ _ _ _ (Nat.zero_le _) hS ⟨fun z => absurd z (by rw [hm]; exact nI_ge hb' (by omega)), fun _ => ?_⟩
    rw [ei, nI_1, nI_clamp (by omega), nI_clamp (by omega)]
    refine ⟨vin (by omega), fun z => ?_, fun z => ⟨vin (by omega), fun z2 => ⟨vin (by omega), ?_⟩, fun z2 => ?_⟩⟩
    · rw [pkS, if_neg (fun q => absurd z (Int32.not_le.mpr q.1))] at nx2; exact nx2
    · rw [pkS, if_pos ⟨Int32.not_le.mp z, decide_eq_true z2⟩, mst_n (by omega)] at nx2; exact nx2
    · rw [pkS, if_neg (fun q => z2 (of_decide_eq_true q.2))] at nx2; exact nx2
theorem lp_heavy (hS : Std h.2.2) (V : VS σ) (hm : h.1 1 5 = nI (nM σ)) (hq : F (pkA (h.1 38) (sepC h) (nM σ) (nM σ)) h) :
    ∀ (n a : Nat), a + n = nM σ → E mX3_heaviest d 0 0 6 [(0, .ref 34), (1, .int (pkA (h.1 38) (sepC h) (nM σ) a)), (2, .int (mst (h.1 38) (pkA (h.1 38) (sepC h) (nM σ) a))), (3, .int (nI a))] [] h (Qi F) X := by
  have hM := V.m.2
  intro n
  induction n with
  | zero =>
    intro a e
    have : a = nM σ := by omega
    subst this
    exact sgX3_heaviest_6 _ _ _ (Nat.zero_le _) hS ⟨fun _ => hq, fun z => absurd (by rw [hm]; exact nI_le (Nat.le_refl _) (by omega)) z⟩
  | succ n ih =>
    intro a e
    have ha : a < nM σ := by omega
    refine sgX3_heaviest_6 _ _ _ (Nat.zero_le _) hS ⟨fun z => absurd z (by rw [hm]; exact nI_ge ha (by omega)), fun _ => ?_⟩
    rw [nI_1]
    have := lp_heavy1 hS V hm ha (ih (a + 1) (by omega)) (nM σ - (a + 1)) (a + 1) (by omega) (by omega)
    rw [pkR_lo (a + 1) (Nat.le_refl _)] at this
    exact this
theorem ok_heaviest (hd : 1 ≤ d) (hS : Std h.2.2) (V : VS σ) (hm : h.1 1 5 = nI (nM σ)) (hq : F (pkA (h.1 38) (sepC h) (nM σ) (nM σ)) h) : OKi d mX3_heaviest [.ref 34] h F X :=
  enX3_heaviest hd hS (lp_heavy hS V hm hq (nM σ) 0 (by omega))
end HEAVIEST
