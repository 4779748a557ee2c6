/-! the state after a change, and Deeds that hold it -/
section CG
variable {σ σ' : Hp}
theorem nD_cg (h : σ'.1 91 6 = σ.1 91 6) : nD σ' = nD σ := by rw [nD, nD, h]
theorem al_cg (h : σ'.1 91 6 = σ.1 91 6) {d : Nat} (h2 : σ'.1 105 d = σ.1 105 d) : al σ' d = al σ d := by rw [al, al, nD_cg h, h2]
theorem dbt_cg {d : Nat} (h : σ'.1 104 d = σ.1 104 d) : dbt σ' d = dbt σ d := by rw [dbt, dbt, h]
theorem sol_cg {d : Nat} (h : σ'.1 102 d = σ.1 102 d) : sol σ' d = sol σ d := by rw [sol, sol, h]
theorem isof_cg {d : Nat} {x : Int32} (h : σ'.1 102 d = σ.1 102 d) (h2 : σ'.1 103 d = σ.1 103 d) : isof σ' d x = isof σ d x := by rw [isof, isof, h, h2]
theorem dst_cg (h : ∀ k, σ'.1 92 k = σ.1 92 k) (h2 : ∀ k, σ'.1 93 k = σ.1 93 k) {a b : Nat} : dst σ' a b = dst σ a b := by rw [dst, dst, h, h, h2, h2]
theorem apt_cg (h : ∀ k, σ'.1 92 k = σ.1 92 k) (h2 : ∀ k, σ'.1 93 k = σ.1 93 k) {a b : Nat} (ha : ∀ c, c = 98 ∨ c = 99 ∨ c = 100 → σ'.1 c a = σ.1 c a ∧ σ'.1 c b = σ.1 c b) : apt σ' a b = apt σ a b := by
  obtain ⟨p1, p2⟩ := ha 98 (Or.inl rfl)
  obtain ⟨p3, p4⟩ := ha 99 (Or.inr (Or.inl rfl))
  obtain ⟨p5, p6⟩ := ha 100 (Or.inr (Or.inr rfl))
  have e1 : plc σ' a = plc σ a := by rw [plc, plc, p1]
  have e2 : plc σ' b = plc σ b := by rw [plc, plc, p2]
  rw [apt, apt, p3, p4, p5, p6, e1, e2, dst_cg h h2]
theorem bar_cg {a b : Nat} (h : σ'.1 106 (60 * a + b) = σ.1 106 (60 * a + b)) : bar σ' a b = bar σ a b := by rw [bar, bar, h]
end CG
section SOLVED
variable {σ h h' : Hp} {d : Nat} {X : String → Hp → Prop} {a : Nat} {x y : Int32}
def stSolve (σ : Hp) (a : Nat) (x y : Int32) : Hp := hI (hI σ 102 a x) 103 a y
theorem stSolve_c {c k : Nat} (h1 : c ≠ 103) (h2 : c ≠ 102) : (stSolve σ a x y).1 c k = σ.1 c k := (hI_c h1).trans (hI_c h2)
theorem stSolve_1 (k : Nat) : (stSolve σ a x y).1 102 k = if k = a then x else σ.1 102 k := by
  show (hI (hI σ 102 a x) 103 a y).1 102 k = _
  rw [hI_c (by decide)]
  by_cases hk : k = a
  · rw [hk, hI_k, if_pos rfl]
  · rw [hI_j hk, if_neg hk]
theorem stSolve_2 (k : Nat) : (stSolve σ a x y).1 103 k = if k = a then y else σ.1 103 k := by
  show (hI (hI σ 102 a x) 103 a y).1 103 k = _
  by_cases hk : k = a
  · rw [hk, hI_k, if_pos rfl]
  · rw [hI_j hk, hI_c (by decide), if_neg hk]
theorem hset_n (hx : hnd x y) : hset x y = !decide (x = -1) := by
  obtain ⟨e1, e2⟩ | ⟨j, k, hj, hk, e1, e2⟩ := hx
  · rw [hset, e1]; rfl
  · have n1 : ¬ x = -1 := fun z => nI_pos (n := j) (by omega) (by rw [← e1, z]; decide)
    have n2 : ¬ y = -1 := fun z => nI_pos (n := k) (by omega) (by rw [← e2, z]; decide)
    rw [hset, decide_eq_false n1, decide_eq_false n2]; rfl
theorem CD_solve (c : CD σ h) (s : SolvedBy a x y h h') (hal : al σ a = true) (hx : hnd x y) : CD (stSolve σ a x y) h' := by
  have e6 : (stSolve σ a x y).1 91 6 = σ.1 91 6 := stSolve_c (by decide) (by decide)
  have eD : nD (stSolve σ a x y) = nD σ := nD_cg e6
  have eA : ∀ d, al (stSolve σ a x y) d = al σ d := fun d => al_cg e6 (stSolve_c (by decide) (by decide))
  obtain ⟨s1, s2, s3, s4, s5⟩ := s
  refine ⟨?_, fun d hd => ?_, fun d hd => ?_, fun k hk b => ?_, fun b => ?_, fun b => ?_, fun b => ?_, fun a' ha b => ?_, fun a' ha b => ?_, ?_, ?_⟩
  · rw [s1.i 8 1, eD]; exact c.n
  · rw [eD] at hd
    rw [s1.i 9 d, s1.i 10 d, s1.i 11 d, s1.i 12 d, stSolve_c (by decide) (by decide), stSolve_c (by decide) (by decide), stSolve_c (by decide) (by decide), stSolve_c (by decide) (by decide)]
    exact c.de hd
  · rw [eD] at hd
    rw [s2, s3, eA, stSolve_1, stSolve_2]
    by_cases hda : d = a
    · subst hda; rw [hal]; exact ⟨by simp, by simp⟩
    · rw [if_neg hda, if_neg hda, if_neg hda, if_neg hda]; exact c.hand hd
  · rw [s4 k hk, eA]
    by_cases hba : b = a
    · subst hba
      rw [if_pos rfl, hal, sol, isof, stSolve_1, stSolve_2, if_pos rfl, if_pos rfl, hset_n hx, Bool.true_and]
    · have q1 : sol (stSolve σ a x y) b = sol σ b := sol_cg (by rw [stSolve_1, if_neg hba])
      have q2 : isof (stSolve σ a x y) b (nI k) = isof σ b (nI k) := isof_cg (by rw [stSolve_1, if_neg hba]) (by rw [stSolve_2, if_neg hba])
      rw [if_neg hba, q1, q2]
      exact c.of hk b
  · rw [s5, eA]
    by_cases hba : b = a
    · subst hba
      rw [if_pos rfl, hal, sol, stSolve_1, if_pos rfl, hset_n hx, Bool.true_and]
    · have q1 : sol (stSolve σ a x y) b = sol σ b := sol_cg (by rw [stSolve_1, if_neg hba])
      rw [if_neg hba, q1]
      exact c.sol b
  · rw [s1.l 8 12, eD, dbt_cg (stSolve_c (by decide) (by decide))]; exact c.dbt b
  · rw [s1.l 8 13, eD, eA]; exact c.gone b
  · rw [s1.l 15 a', eD, apt_cg (fun k => stSolve_c (by decide) (by decide)) (fun k => stSolve_c (by decide) (by decide)) fun q hq => ⟨stSolve_c (by omega) (by omega), stSolve_c (by omega) (by omega)⟩]
    exact c.apart ha b
  · rw [s1.l 16 a', bar_cg (stSolve_c (by decide) (by decide))]; exact c.bar ha b
  · rw [s1.i 8 14, stSolve_c (by decide) (by decide)]; exact c.win.1
  · rw [s1.i 8 15, stSolve_c (by decide) (by decide)]; exact c.win.2
/-- a deed that is gone -/
def stGone (σ : Hp) (a : Nat) : Hp := hI σ 105 a 1
theorem stGone_c {c k : Nat} (h1 : c ≠ 105) : (stGone σ a).1 c k = σ.1 c k := hI_c h1
theorem stGone_al (k : Nat) : al (stGone σ a) k = (al σ k && !decide (k = a)) := by
  rw [al, al, nD_cg (stGone_c (by decide))]
  by_cases hk : k = a
  · subst hk
    have : (stGone σ k).1 105 k = 1 := hI_k
    rw [this]; simp
  · have : (stGone σ a).1 105 k = σ.1 105 k := hI_j hk
    rw [this]; simp [hk]
theorem ok_drop {F : Hp → Prop} (hd : 3 ≤ d) (hS : Std h.2.2) (V : VS σ) (c : CD σ h) (hal : al σ a = true) (hq : ∀ h', Fr [13, 14, 17] [(8, 11), (8, 13)] h h' → CD (stGone σ a) h' → F h') : OKv d mX0_drop [.ref 8, .int (nI a)] h F X := by
  have hD := V.d.2
  have ha := al_lt hal
  refine enX0_drop (nI a) hd hS (ok_solveBy (Nat.le_refl _) hS (by omega) (Or.inl ⟨rfl, rfl⟩) fun h' s => ok_only (by omega) (s.1.sd hS) ?_)
  obtain ⟨s1, s2, s3, s4, s5⟩ := s
  have e6 : (stGone σ a).1 91 6 = σ.1 91 6 := stGone_c (by decide)
  have eD : nD (stGone σ a) = nD σ := nD_cg e6
  have hs : hset (-1) (-1) = false := by decide
  refine hq _ ((s1.mono).tr Fr.pL) ⟨?_, fun d hd => ?_, fun d hd => ?_, fun k hk b => ?_, fun b => ?_, fun b => ?_, fun b => ?_, fun a' ha b => ?_, fun a' ha b => ?_, ?_, ?_⟩
  · rw [hL_i, s1.i 8 1, eD]; exact c.n
  · rw [eD] at hd
    rw [hL_i, hL_i, hL_i, hL_i, s1.i 9 d, s1.i 10 d, s1.i 11 d, s1.i 12 d, stGone_c (by decide), stGone_c (by decide), stGone_c (by decide), stGone_c (by decide)]
    exact c.de hd
  · rw [eD] at hd
    rw [hL_i, hL_i, s2, s3, stGone_al, stGone_c (by decide), stGone_c (by decide)]
    by_cases hda : d = a
    · subst hda; simp
    · rw [if_neg hda, if_neg hda, decide_eq_false hda, Bool.not_false, Bool.and_true]; exact c.hand hd
  · rw [hL_c (by decide), s4 k hk, stGone_al, sol_cg (stGone_c (by decide)), isof_cg (stGone_c (by decide)) (stGone_c (by decide)), hs]
    by_cases hba : b = a
    · subst hba; simp
    · rw [if_neg hba, decide_eq_false hba, Bool.not_false, Bool.and_true]; exact c.of hk b
  · rw [hL_j (by decide), s5, stGone_al, sol_cg (stGone_c (by decide)), hs]
    by_cases hba : b = a
    · subst hba; simp
    · rw [if_neg hba, decide_eq_false hba, Bool.not_false, Bool.and_true]; exact c.sol b
  · rw [hL_j (by decide), s1.l 8 12, eD, dbt_cg (stGone_c (by decide))]; exact c.dbt b
  · rw [hL_k, hb_put (by omega), s1.l 8 13, eD, stGone_al, c.gone]
    by_cases hba : b = a
    · subst hba; simp [ha]
    · simp [hba]
  · rw [hL_c (by decide), s1.l 15 a', eD, apt_cg (fun k => stGone_c (by decide)) (fun k => stGone_c (by decide)) fun q hq => ⟨stGone_c (by omega), stGone_c (by omega)⟩]
    exact c.apart ha b
  · rw [hL_c (by decide), s1.l 16 a', bar_cg (stGone_c (by decide))]; exact c.bar ha b
  · rw [hL_i, s1.i 8 14, stGone_c (by decide)]; exact c.win.1
  · rw [hL_i, s1.i 8 15, stGone_c (by decide)]; exact c.win.2
end SOLVED
