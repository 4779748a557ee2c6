/-! weights -/
section WEIGHT
variable {σ h : Hp} {d S : Nat} {X : String → Hp → Prop} {w : Nat → Nat → Int32} {a b : Nat}
/-- counted deeds with a state of one mark and a state of another -/
def cw (σ : Hp) (w : Nat → Nat → Int32) (a b : Nat) (s t : Int32) (n : Nat) : Nat := fb_ct (fun k => ctd σ k && decide (w k a = s) && decide (w k b = t)) n
def wtv (two first second none : Nat) : Int32 := absI (nI two * nI none - nI first * nI second)
def wt (σ : Hp) (w : Nat → Nat → Int32) (a b : Nat) : Int32 := wtv (cw σ w a b 2 2 (nD σ)) (cw σ w a b 2 1 (nD σ)) (cw σ w a b 1 2 (nD σ)) (cw σ w a b 1 1 (nD σ))
theorem cw_cnt (V : VS σ) {z : Int64} {s t : Int32} (hz : ∀ k, k < 60 → hb z k = (ctd σ k && decide (w k a = s) && decide (w k b = t))) (h6 : ∀ k, 60 ≤ k → hb z k = false) : cntb z = cw σ w a b s t (nD σ) := by
  have hD := V.d.2
  unfold cntb cw
  rw [ct64 (p := hb z) (n := nD σ) (by omega) fun k hk => ?_]
  · exact fb_ct_cong fun k hk => hz k (by omega)
  · by_cases h60 : k < 60
    · rw [hz k h60]
      cases hc : ctd σ k
      · rfl
      · have := (ctd_le hc).2.2
        omega
    · exact h6 k (by omega)
theorem lk_b (x : Int32) : (lkd x && decide (x = 2)) = decide (x = 2) := by
  unfold lkd
  by_cases h2 : x = 2
  · rw [decide_eq_true h2]; simp
  · rw [decide_eq_false h2]; simp
theorem lk_n (x : Int32) : (lkd x && !decide (x = 2)) = decide (x = 1) := by
  unfold lkd
  by_cases h2 : x = 2
  · rw [h2]; decide
  · rw [decide_eq_false h2]; simp
theorem ok_weightOf {F : Int32 → Hp → Prop} (sh : ShOK S) (hd : 2 ≤ d) (hS : Std h.2.2) (V : VS σ) (hs : h.2.2.1 34 2 = some S) (hc : ∀ k, hb (h.2.1 34 3) k = ctd σ k) (s : Shw w S h) (ha : a < 16) (hbb : b < 16) (hq : F (wt σ w a b) h) : OKi d mX3_weightOf [.ref 34, .int (nI a), .int (nI b)] h F X := by
  have hD := V.d.2
  have big : ∀ k, 60 ≤ k → ctd σ k = false := fun k hk => by
    cases hc : ctd σ k
    · rfl
    · have := (ctd_le hc).2.2
      omega
  have la : ∀ k, k < 60 → hb (h.2.1 (S + 1) a) k = lkd (w k a) ∧ hb (h.2.1 (S + 2) a) k = decide (w k a = 2) := fun k hk => by
    obtain ⟨q1, q2, _⟩ := s a ha k
    simp only [decide_eq_true hk, Bool.true_and] at q1 q2
    exact ⟨q1, q2⟩
  have lb : ∀ k, k < 60 → hb (h.2.1 (S + 1) b) k = lkd (w k b) ∧ hb (h.2.1 (S + 2) b) k = decide (w k b = 2) := fun k hk => by
    obtain ⟨q1, q2, _⟩ := s b hbb k
    simp only [decide_eq_true hk, Bool.true_and] at q1 q2
    exact ⟨q1, q2⟩
  have sh4 : ∀ c x y u v : Bool, ((((c && x) && y) && u) && v) = ((c && (x && u)) && (y && v)) := by decide
  refine enX3_weightOf sh (nI a) (nI b) hd hS ⟨hs, vin ha, hs, vin hbb, hs, vin ha, hs, vin hbb, ?_⟩
  rw [nI_clamp (by omega), nI_clamp (by omega)]
  refine ok_bitCount (Nat.le_refl _) hS (ok_bitCount (Nat.le_refl _) hS (ok_bitCount (Nat.le_refl _) hS (ok_bitCount (Nat.le_refl _) hS ?_)))
  rw [cw_cnt (a := a) (b := b) (w := w) V (s := 2) (t := 2) (fun k hk => ?_) (fun k hk => ?_), cw_cnt (a := a) (b := b) (w := w) V (s := 1) (t := 1) (fun k hk => ?_) (fun k hk => ?_), cw_cnt (a := a) (b := b) (w := w) V (s := 2) (t := 1) (fun k hk => ?_) (fun k hk => ?_), cw_cnt (a := a) (b := b) (w := w) V (s := 1) (t := 2) (fun k hk => ?_) (fun k hk => ?_)]
  · exact hq
  · rw [hb_and, hb_and, hb_and, hb_and, hc, (la k hk).1, (lb k hk).1, hb_not (by omega), (la k hk).2, (lb k hk).2, sh4, lk_n, lk_b]
  · rw [hb_and, hb_and, hb_and, hb_and, hc, big k hk]; rfl
  · rw [hb_and, hb_and, hb_and, hb_and, hc, (la k hk).1, (lb k hk).1, hb_not (by omega), (la k hk).2, (lb k hk).2, sh4, lk_b, lk_n]
  · rw [hb_and, hb_and, hb_and, hb_and, hc, big k hk]; rfl
  · rw [hb_and, hb_and, hb_and, hb_and, hc, (la k hk).1, (lb k hk).1, hb_not (by omega), hb_not (by omega), (la k hk).2, (lb k hk).2, sh4, lk_n, lk_n]
  · rw [hb_and, hb_and, hb_and, hb_and, hc, big k hk]; rfl
  · rw [hb_and, hb_and, hb_and, hb_and, hc, (la k hk).1, (lb k hk).1, (la k hk).2, (lb k hk).2, sh4, lk_b, lk_b]
  · rw [hb_and, hb_and, hb_and, hb_and, hc, big k hk]; rfl
end WEIGHT
