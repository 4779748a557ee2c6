/-! the class's Deeds, read: sets and numbers over all -/
section DEEDSB
variable {σ h : Hp} {d : Nat} {X : String → Hp → Prop}
theorem CD.de (c : CD σ h) {a : Nat} (ha : a < nD σ) : h.1 9 a = σ.1 98 a ∧ h.1 10 a = σ.1 99 a ∧ h.1 11 a = σ.1 100 a ∧ h.1 12 a = σ.1 101 a := c.2.1 a ha
theorem CD.win (c : CD σ h) : h.1 8 14 = σ.1 91 29 ∧ h.1 8 15 = σ.1 91 30 := ⟨c.2.2.2.2.2.2.2.2.2.1, c.2.2.2.2.2.2.2.2.2.2⟩
theorem ctd_le {σ : Hp} {k : Nat} (h : ctd σ k = true) : stn σ k = true ∧ al σ k = true ∧ k < nD σ := by
  simp only [ctd, stn, Bool.and_eq_true] at h ⊢
  exact ⟨h.1, h.1.1, al_lt h.1.1⟩
theorem stn_lt {σ : Hp} {k : Nat} (h : stn σ k = true) : al σ k = true ∧ k < nD σ := by
  simp only [stn, Bool.and_eq_true] at h
  exact ⟨h.1, al_lt h.1⟩
theorem lp_counting {F : Int64 → Hp → Prop} {r : Int64} (hd : 2 ≤ d) (hS : Std h.2.2) (V : VS σ) (c : CD σ h) (hr : ∀ k, hb r k = stn σ k) (hq : ∀ r, (∀ k, hb r k = ctd σ k) → F r h) : ∀ (n i : Nat) (x : Int64), i + n = nD σ → (∀ k, hb x k = (decide (k < i) && ctd σ k)) →
    E mX0_counting d 0 0 10 [(0, .ref 8), (1, .long r), (3, .long x), (5, .int (nI i))] [] h (Ql F) X := by
  have hD := V.d.2
  intro n
  induction n with
  | zero =>
    intro i x e hx
    refine sgX0_counting_10 _ _ _ hd hS ⟨fun _ => hq x fun k => ?_, fun q => absurd (by rw [c.n]; exact nI_le (by omega) (by omega)) q⟩
    rw [hx]
    cases hk : ctd σ k
    · simp
    · have := (ctd_le hk).2.2
      simp; omega
  | succ n ih =>
    intro i x e hx
    have hi : i < nD σ := by omega
    obtain ⟨_, e10, _, _⟩ := c.de hi
    have nx : ∀ x', (∀ k, hb x' k = (decide (k < i + 1) && ctd σ k)) → E mX0_counting d 0 0 10 [(0, .ref 8), (1, .long r), (3, .long x'), (5, .int (nI i + 1))] [] h (Ql F) X := fun x' hx' => by
      rw [nI_1]; exact ih (i + 1) x' (by omega) hx'
    have no : ctd σ i = false → ∀ k, hb x k = (decide (k < i + 1) && ctd σ k) := fun hc k => by
      rw [hx]
      by_cases hk : k = i
      · subst hk; rw [hc]; simp
      · have : decide (k < i + 1) = decide (k < i) := by
          apply decide_eq_decide.mpr; omega
        rw [this]
    refine sgX0_counting_10 _ _ _ hd hS ⟨fun q => absurd q (by rw [c.n]; exact nI_ge hi (by omega)), fun _ => ok_has (by omega) hS (by omega) ⟨fun q => nx _ (no ?_), fun q => ⟨vin (by omega), fun q2 => nx _ (no ?_), fun q2 => ⟨vin (by omega), fun q3 => nx _ (no ?_), fun q3 => ok_only (by omega) hS (nx _ fun k => ?_)⟩⟩⟩⟩
    · have := bI_0.mp q
      rw [hr] at this
      simp [ctd, this]
    · rw [nI_clamp (by omega), e10, c.win.1] at q2
      have : ¬ σ.1 91 29 ≤ σ.1 99 i := fun z => absurd q2 (Int32.not_lt.mpr z)
      simp [ctd, this]
    · rw [nI_clamp (by omega), e10, c.win.2] at q3
      have : ¬ σ.1 99 i ≤ σ.1 91 30 := fun z => absurd q3 (Int32.not_lt.mpr z)
      simp [ctd, this]
    · rw [nI_clamp (by omega), e10, c.win.1] at q2
      rw [nI_clamp (by omega), e10, c.win.2] at q3
      have h1 := bI_n0.mp q
      rw [hr] at h1
      have hc : ctd σ i = true := by
        simp only [ctd, h1, decide_eq_true (Int32.not_lt.mp q2), decide_eq_true (Int32.not_lt.mp q3)]; rfl
      rw [hb_or, hx, hb_only (by omega)]
      by_cases hk : k = i
      · subst hk; simp [hc]
      · have : decide (k < i + 1) = decide (k < i) := by
          apply decide_eq_decide.mpr; omega
        rw [this]; simp [hk]
theorem ok_counting {F : Int64 → Hp → Prop} (hd : 3 ≤ d) (hS : Std h.2.2) (V : VS σ) (c : CD σ h) (hq : ∀ r, (∀ k, hb r k = ctd σ k) → F r h) : OKl d mX0_counting [.ref 8] h F X :=
  enX0_counting hd hS (ok_standing (Nat.le_refl _) hS V c fun r hr => lp_counting (Nat.le_refl _) hS V c hr hq (nD σ) 0 0 (by omega) fun k => by rw [hb_0]; simp)
/-- the latest FROM of a set, of the first n -/
def ltf (σ : Hp) (p : Nat → Bool) : Nat → Int32
  | 0 => 0
  | n + 1 => if p n then maxI (ltf σ p n) (σ.1 99 n) else ltf σ p n
theorem lp_latestFrom {F : Int32 → Hp → Prop} {r : Int64} {p : Nat → Bool} (hd : 1 ≤ d) (hS : Std h.2.2) (V : VS σ) (c : CD σ h) (hr : ∀ k, hb r k = p k) (hq : F (ltf σ p (nD σ)) h) : ∀ (n i : Nat), i + n = nD σ →
    E mX0_latestFrom d 0 0 5 [(0, .ref 8), (1, .long r), (3, .int (ltf σ p i)), (4, .int (nI i))] [] h (Qi F) X := by
  have hD := V.d.2
  intro n
  induction n with
  | zero =>
    intro i e
    have : i = nD σ := by omega
    subst this
    exact sgX0_latestFrom_5 _ _ _ hd hS ⟨fun _ => hq, fun q => absurd (by rw [c.n]; exact nI_le (by omega) (by omega)) q⟩
  | succ n ih =>
    intro i e
    have hi : i < nD σ := by omega
    obtain ⟨_, e10, _, _⟩ := c.de hi
    have := ih (i + 1) (by omega)
    rw [← nI_1] at this
    refine sgX0_latestFrom_5 _ _ _ hd hS ⟨fun q => absurd q (by rw [c.n]; exact nI_ge hi (by omega)), fun _ => ok_has (by omega) hS (by omega) ⟨fun q => ?_, fun q => ⟨vin (by omega), ?_⟩⟩⟩
    · have h1 := bI_0.mp q
      rw [hr] at h1
      simpa [ltf, h1] using this
    · have h1 := bI_n0.mp q
      rw [hr] at h1
      rw [nI_clamp (by omega), e10]
      simpa [ltf, h1, maxI] using this
theorem ok_latestFrom {F : Int32 → Hp → Prop} {r : Int64} {p : Nat → Bool} (hd : 2 ≤ d) (hS : Std h.2.2) (V : VS σ) (c : CD σ h) (hr : ∀ k, hb r k = p k) (hq : F (ltf σ p (nD σ)) h) : OKi d mX0_latestFrom [.ref 8, .long r] h F X :=
  enX0_latestFrom r hd hS (lp_latestFrom (Nat.le_refl _) hS V c hr hq (nD σ) 0 (by omega))
/-- the counted pairs of two, of the first n -/
def prs (σ : Hp) (w : Nat → Nat → Bool) (n : Nat) : Nat := fb_sm (fun a => if ctd σ a then fb_ct (fun b => decide (a < b) && ctd σ b && w a b) (nD σ) else 0) n
theorem ct64 {p : Nat → Bool} {n : Nat} (hn : n ≤ 64) (h : ∀ k, n ≤ k → p k = false) : fb_ct p 64 = fb_ct p n := by
  have e : 64 = n + (64 - n) := by omega
  rw [e, fb_ct_split]
  have : fb_ct (fun k => p (n + k)) (64 - n) = 0 := fb_ct_zero.mpr fun k _ => h _ (by omega)
  rw [this]; rfl
def relOf (σ : Hp) (w : Bool) (a b : Nat) : Bool := if w then one σ a b else brd σ a b
theorem prs_cnt {σ : Hp} (V : VS σ) {w : Bool} {i : Nat} {r x y : Int64} (hi : ctd σ i = true) (hr : ∀ k, hb r k = (al σ k && relOf σ w i k && !decide (k = i))) (hx : ∀ k, hb x k = ctd σ k) (hy : ∀ k, hb y k = decide (i < k ∧ k < 64)) : cntb ((r &&& x) &&& y) = fb_ct (fun b => decide (i < b) && ctd σ b && relOf σ w i b) (nD σ) := by
  have hD := V.d.2
  unfold cntb
  have e : ∀ k, hb ((r &&& x) &&& y) k = (decide (i < k) && ctd σ k && relOf σ w i k) := fun k => by
    rw [hb_and, hb_and, hr, hx, hy]
    cases hk : ctd σ k
    · simp
    · have h1 := (ctd_le hk)
      have h3 : k < 64 := by omega
      rw [h1.2.1]
      by_cases hik : i < k
      · have : ¬ k = i := by omega
        simp [hik, this, h3]
      · simp [hik]
  rw [ct64 (p := hb ((r &&& x) &&& y)) (n := nD σ) (by omega) fun k hk => ?_]
  · exact fb_ct_cong fun k _ => e k
  · rw [e]
    cases hc : ctd σ k
    · simp
    · have := (ctd_le hc).2.2
      omega
theorem lp_pairs {F : Int32 → Hp → Prop} {r : Int64} {w : Bool} (hd : 3 ≤ d) (hS : Std h.2.2) (V : VS σ) (c : CD σ h) (hr : ∀ k, hb r k = ctd σ k) (hq : F (nI (prs σ (relOf σ w) (nD σ))) h) : ∀ (n i : Nat), i + n = nD σ →
    E mX0_pairs d 0 0 11 [(0, .ref 8), (1, .int (bI w)), (2, .long r), (4, .int (nI (prs σ (relOf σ w) i))), (5, .int (nI i))] [] h (Qi F) X := by
  have hD := V.d.2
  intro n
  induction n with
  | zero =>
    intro i e
    have : i = nD σ := by omega
    subst this
    exact sgX0_pairs_11 _ _ _ _ hd hS ⟨fun _ => hq, fun q => absurd (by rw [c.n]; exact nI_le (by omega) (by omega)) q⟩
  | succ n ih =>
    intro i e
    have hi : i < nD σ := by omega
    have nx := ih (i + 1) (by omega)
    rw [← nI_1] at nx
    have ep : prs σ (relOf σ w) (i + 1) = prs σ (relOf σ w) i + (if ctd σ i then fb_ct (fun b => decide (i < b) && ctd σ b && relOf σ w i b) (nD σ) else 0) := rfl
    refine sgX0_pairs_11 _ _ _ _ hd hS ⟨fun q => absurd q (by rw [c.n]; exact nI_ge hi (by omega)), fun _ => ok_has (by omega) hS (by omega) ⟨fun q => ?_, fun q => ?_⟩⟩
    · have h1 := bI_0.mp q
      rw [hr] at h1
      rw [ep, h1] at nx
      exact nx
    · have h1 := bI_n0.mp q
      rw [hr] at h1
      have hal := (ctd_le h1).2.1
      rw [ep, if_pos h1] at nx
      refine ⟨fun q2 => ?_, fun q2 => ?_⟩
      · have hw := bI_0.mp q2
        subst hw
        refine ok_barredFrom hd hS V c hal fun r2 h2 => ok_above (by omega) hS (ok_bitCount (by omega) hS ?_)
        rw [prs_cnt V (w := false) h1 h2 hr (hb_above (by omega)), nI_add]
        exact nx
      · have hw := bI_n0.mp q2
        subst hw
        refine ok_oneWith (by omega) hS V c hi fun r2 h2 => ok_above (by omega) hS (ok_bitCount (by omega) hS ?_)
        rw [prs_cnt V (w := true) h1 (fun k => by rw [h2 k, hal, Bool.true_and]; rfl) hr (hb_above (by omega)), nI_add]
        exact nx
theorem ok_pairs {F : Int32 → Hp → Prop} {w : Bool} (hd : 4 ≤ d) (hS : Std h.2.2) (V : VS σ) (c : CD σ h) (hq : F (nI (prs σ (relOf σ w) (nD σ))) h) : OKi d mX0_pairs [.ref 8, .int (bI w)] h F X :=
  enX0_pairs (bI w) hd hS (ok_counting (Nat.le_refl _) hS V c fun r hr => lp_pairs (Nat.le_refl _) hS V c hr hq (nD σ) 0 (by omega))
end DEEDSB
