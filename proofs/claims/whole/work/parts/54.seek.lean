/-! the reference's search of the heaviest pair -/
section SEEK
variable {σ h : Hp} {d : Nat} {X : String → Hp → Prop} {F : Hp → Prop}
theorem pkS_pos {W : Nat → Int32} {sep : Nat → Nat → Bool} {f : Int32} {a b : Nat} (hab : 16 * a + b < 256) (h : 0 ≤ mst W f) : 0 ≤ mst W (pkS W sep f a b) := by
  rw [pkS]
  by_cases q : mst W f < W (16 * a + b) ∧ sep a b = true
  · rw [if_pos q, mst_n (by omega)]
    have h1 := q.1
    rw [fa_lt] at h1
    rw [fa_le] at h ⊢
    omega
  · rw [if_neg q]; exact h
theorem pkR_pos {W : Nat → Int32} {sep : Nat → Nat → Bool} {f : Int32} {a : Nat} (ha : a < 16) (h : 0 ≤ mst W f) : ∀ b, b ≤ 16 → 0 ≤ mst W (pkR W sep f a b)
  | 0, _ => h
  | b + 1, hb' => by
    have := pkR_pos (W := W) (sep := sep) ha h b (by omega)
    rw [pkR]
    by_cases q : a < b
    · rw [if_pos q]; exact pkS_pos (by omega) this
    · rw [if_neg q]; exact this
theorem pkA_pos {W : Nat → Int32} {sep : Nat → Nat → Bool} {M : Nat} (hM : M ≤ 16) : ∀ a, a ≤ 16 → 0 ≤ mst W (pkA W sep M a)
  | 0, _ => by
    have : mst W (-1) = 0 := by rw [mst, if_pos rfl]
    rw [pkA, this]; decide
  | a + 1, ha => pkR_pos (by omega) (pkA_pos hM a (by omega)) M hM
/-- what was found is a pair of marks, or nothing -/
theorem pkR_in {W : Nat → Int32} {sep : Nat → Nat → Bool} {f : Int32} {a : Nat} {P : Int32 → Prop} (hf : P f) : ∀ b, (∀ c, a < c → c < b → sep a c = true → P (nI (16 * a + c))) → P (pkR W sep f a b)
  | 0, _ => hf
  | b + 1, hP => by
    have := pkR_in (W := W) (sep := sep) hf b fun c h1 h2 h3 => hP c h1 (by omega) h3
    rw [pkR]
    by_cases q : a < b
    · rw [if_pos q, pkS]
      by_cases q2 : mst W (pkR W sep f a b) < W (16 * a + b) ∧ sep a b = true
      · rw [if_pos q2]; exact hP b q (by omega) q2.2
      · rw [if_neg q2]; exact this
    · rw [if_neg q]; exact this
theorem pkA_in {W : Nat → Int32} {sep : Nat → Nat → Bool} {M : Nat} {P : Int32 → Prop} (hf : P (-1)) : ∀ a, (∀ c e, c < a → c < e → e < M → sep c e = true → P (nI (16 * c + e))) → P (pkA W sep M a)
  | 0, _ => hf
  | a + 1, hP => pkR_in (pkA_in hf a fun c e h1 h2 h3 => hP c e (by omega) h2 h3) M fun c h1 h2 h3 => hP a c (Nat.lt_succ_self _) h1 h2 h3
def sepM (h : Hp) (a b : Nat) : Bool := !decide (h.1 118 a = h.1 118 b)
theorem lp_seek1 (hd : 5 ≤ d) (hS : Std h.2.2) (V : VS σ) (hm : h.1 91 3 = nI (nM σ)) {a : Nat} (ha : a < nM σ)
    (nx : E mX12_layTree d 0 0 82 [(0, .ref 91), (2, .int (pkA (h.1 117) (sepM h) (nM σ) (a + 1))), (3, .int (nI (a + 1)))] [] h (Qv F) X) :
    ∀ (n b : Nat), b + n = nM σ → a < b → E mX12_layTree d 0 0 95 [(0, .ref 91), (2, .int (pkR (h.1 117) (sepM h) (pkA (h.1 117) (sepM h) (nM σ) a) a b)), (3, .int (nI a)), (4, .int (nI b))] [] h (Qv F) X := by
  have hM := V.m.2
  intro n
  induction n with
  | zero =>
    intro b e hab
    have : b = nM σ := by omega
    subst this
    refine sgX12_layTree_95 _ _ _ hd hS ⟨fun _ => ?_, fun z => absurd (by rw [hm]; exact nI_le (Nat.le_refl _) (by omega)) z⟩
    rw [nI_1]
    exact nx
  | succ n ih =>
    intro b e hab
    have hb' : b < nM σ := by omega
    have nx2 := ih (b + 1) (by omega) (by omega)
    have ei : (16 : Int32) * nI a + nI b = nI (16 * a + b) := by rw [lit_nI 16, pk_mul, nI_add]
    rw [pkR, if_pos hab] at nx2
    have pos : 0 ≤ mst (h.1 117) (pkR (h.1 117) (sepM h) (pkA (h.1 117) (sepM h) (nM σ) a) a b) := pkR_pos (by omega) (pkA_pos hM a (by omega)) b (by omega)
    have inn : pkR (h.1 117) (sepM h) (pkA (h.1 117) (sepM h) (nM σ) a) a b = -1 ∨ ∃ k, k < 256 ∧ pkR (h.1 117) (sepM h) (pkA (h.1 117) (sepM h) (nM σ) a) a b = nI k :=
      pkR_in (P := fun x => x = -1 ∨ ∃ k, k < 256 ∧ x = nI k) (pkA_in (P := fun x => x = -1 ∨ ∃ k, k < 256 ∧ x = nI k) (Or.inl rfl) a fun c e h1 h2 h3 _ => Or.inr ⟨_, by omega, rfl⟩) b fun c h1 h2 _ => Or.inr ⟨_, by omega, rfl⟩
    revert nx2 pos inn
    generalize pkR (h.1 117) (sepM h) (pkA (h.1 117) (sepM h) (nM σ) a) a b = f
    intro nx2 pos inn
    refine sgX12_layTree_95 _ _ _ hd hS ⟨fun z => absurd z (by rw [hm]; exact nI_ge hb' (by omega)), fun _ => ⟨vin (by omega), vin (by omega), ?_⟩⟩
    rw [ei, nI_1, nI_clamp (by omega), nI_clamp (by omega), nI_clamp (by omega)]
    refine ⟨fun z => ?_, fun z => ⟨vin (by omega), fun z2 => ?_, fun z2 => ⟨fun z3 => ?_, fun z3 => ⟨vin (by omega), ?_⟩⟩⟩⟩
    · have : sepM h a b = false := by rw [sepM, decide_eq_true z]; rfl
      rw [pkS, if_neg (fun q => by rw [this] at q; exact absurd q.2 (by decide))] at nx2; exact nx2
    · rw [pkS, if_neg (fun q => ?_)] at nx2
      · exact nx2
      · have h1 := q.1
        rw [fa_lt] at h1
        rw [fa_le] at pos z2
        omega
    · have : sepM h a b = true := by rw [sepM, decide_eq_false z]; rfl
      have e0 : mst (h.1 117) f = 0 := by rw [mst, if_pos z3]
      rw [pkS, if_pos ⟨by rw [e0]; exact Int32.not_le.mp z2, this⟩] at nx2; exact nx2
    · have hs : sepM h a b = true := by rw [sepM, decide_eq_false z]; rfl
      obtain q | ⟨k, hk, q⟩ := inn
      · exact absurd q z3
      · subst q
        rw [nI_clamp (by omega)]
        refine ⟨vin hk, fun z4 => ?_, fun z4 => ?_⟩
        · rw [pkS, mst_n (by omega), if_neg (fun q => absurd z4 (Int32.not_le.mpr q.1))] at nx2; exact nx2
        · rw [pkS, mst_n (by omega), if_pos ⟨Int32.not_le.mp z4, hs⟩] at nx2; exact nx2
end SEEK
