/-! two groups become one, by the class -/
section UNITEC
variable {σ h : Hp} {d S : Nat} {X : String → Hp → Prop} {s : JG} {w : Nat → Nat → Int32}
theorem lp_unite49 {F : Hp → Prop} {o t : Nat} (hd : 1 ≤ d) (hS : Std h.2.2) (V : VS σ) (J : JJ σ s) (ho : hdJ σ s o = true) (ht : hdJ σ s t = true) (hot : o < t) (h0 : h.1 53 0 = nI (nD σ)) (h1 : ∀ k, hb (h.2.1 53 1) k = hdJ σ (uniJ s o t) k)
    (hs : ∀ a b, hdJ σ s a = true → hdJ σ s b = true → a ≠ b → h.1 56 (60 * a + b) = s.2 a b)
    (hq : ∀ q, Fr [56] [] h q → (∀ a b, hdJ σ (uniJ s o t) a = true → hdJ σ (uniJ s o t) b = true → a ≠ b → q.1 56 (60 * a + b) = (uniJ s o t).2 a b) → F q) :
    ∀ (n i : Nat) (q : Hp), i + n = nD σ → Fr [56] [] h q → (∀ c, c < 60 → q.1 56 (60 * t + c) = h.1 56 (60 * t + c)) →
    (∀ a b, hdJ σ (uniJ s o t) a = true → hdJ σ (uniJ s o t) b = true → a ≠ b → q.1 56 (60 * a + b) = if (a = o ∧ b < i) ∨ (b = o ∧ a < i) then (uniJ s o t).2 a b else s.2 a b) →
    E mX1_unite d 0 0 49 [(0, .ref 53), (1, .int (nI o)), (2, .int (nI t)), (3, .int (nI i))] [] q (Qv F) X := by
  have hD := V.d.2
  have hdn : ∀ a, hdJ σ (uniJ s o t) a = true → hdJ σ s a = true ∧ a ≠ t ∧ a < nD σ := fun a z => by
    rw [uni_hd J ho ht hot, Bool.and_eq_true, Bool.not_eq_true', decide_eq_false_iff_not] at z
    exact ⟨z.1, z.2, (stn_al (hd_1 z.1).1).2⟩
  have oh : hdJ σ (uniJ s o t) o = true := by rw [uni_hd J ho ht hot, ho, decide_eq_false (by omega)]; rfl
  have on' := (stn_al (hd_1 ho).1).2
  have tn := (stn_al (hd_1 ht).1).2
  intro n
  induction n with
  | zero =>
    intro i q e fr I R
    have : i = nD σ := by omega
    subst this
    refine sgX1_unite_49 _ _ _ hd (fr.sd hS) ⟨fun _ => hq q fr fun a b ha hb' hab => ?_, fun z => absurd (by rw [fr.i 53 0, h0]; exact Int32.le_refl _) z⟩
    rw [R a b ha hb' hab]
    by_cases q1 : (a = o ∧ b < nD σ) ∨ (b = o ∧ a < nD σ)
    · rw [if_pos q1]
    · rw [if_neg q1]
      have := (hdn a ha).2.2
      have := (hdn b hb').2.2
      show _ = (if a = o then s.2 o b + s.2 t b else if b = o then s.2 o a + s.2 t a else s.2 a b)
      rw [if_neg (by omega), if_neg (by omega)]
  | succ n ih =>
    intro i q e fr I R
    have hi : i < nD σ := by omega
    have hS' := fr.sd hS
    have keep : (i = o ∨ hdJ σ (uniJ s o t) i = false) → E mX1_unite d 0 0 49 [(0, .ref 53), (1, .int (nI o)), (2, .int (nI t)), (3, .int (nI (i + 1)))] [] q (Qv F) X := fun hz => ih (i + 1) q (by omega) fr I fun a b ha hb' hab => by
      rw [R a b ha hb' hab]
      have na : a ≠ i ∨ a = o := by
        obtain z | z := hz
        · by_cases y : a = i
          · exact Or.inr (by omega)
          · exact Or.inl y
        · exact Or.inl fun y => by rw [y, z] at ha; cases ha
      have nb : b ≠ i ∨ b = o := by
        obtain z | z := hz
        · by_cases y : b = i
          · exact Or.inr (by omega)
          · exact Or.inl y
        · exact Or.inl fun y => by rw [y, z] at hb'; cases hb'
      by_cases q1 : (a = o ∧ b < i) ∨ (b = o ∧ a < i)
      · rw [if_pos q1, if_pos (by omega)]
      · rw [if_neg q1, if_neg (by omega)]
    refine sgX1_unite_49 _ _ _ hd hS' ⟨fun z => absurd z (by rw [fr.i 53 0, h0]; exact nI_ge hi (by omega)), fun _ => ?_⟩
    rw [nI_1, nI_eq (by omega) (by omega)]
    refine ⟨fun z => keep (Or.inl z), fun z => ok_has (by omega) hS' (by omega) ?_⟩
    rw [fr.l 53 1, h1 i]
    refine ⟨fun z2 => keep (Or.inr (bI_0.mp z2)), fun z2 => ?_⟩
    have hi2 := bI_n0.mp z2
    have hi3 := hdn i hi2
    have e1 : nI o * (60 : Int32) + nI i = nI (60 * o + i) := by rw [lit_nI 60, pk_mul, nI_add, Nat.mul_comm]
    have e2 : nI t * (60 : Int32) + nI i = nI (60 * t + i) := by rw [lit_nI 60, pk_mul, nI_add, Nat.mul_comm]
    have e3 : nI i * (60 : Int32) + nI o = nI (60 * i + o) := by rw [lit_nI 60, pk_mul, nI_add, Nat.mul_comm]
    rw [e1, e2, e3, nI_clamp (by omega), nI_clamp (by omega), nI_clamp (by omega), R o i oh hi2 (fun y => z y.symm), if_neg (by omega), I i (by omega), hs t i ht hi3.1 (fun y => hi3.2.1 y.symm)]
    refine ⟨vin (by omega), vin (by omega), vin (by omega), vin (by omega), ih (i + 1) _ (by omega) (Fr.tr fr (Fr.tr Fr.pI Fr.pI)) (fun c hc => ?_) fun a b ha hb' hab => ?_⟩
    · rw [hI_if, if_neg (by omega), hI_if, if_neg (by omega)]
      exact I c hc
    · have hna := (hdn a ha).2.2
      have hnb := (hdn b hb').2.2
      rw [hI_if, hI_if, R a b ha hb' hab]
      show _ = (if (a = o ∧ b < i + 1) ∨ (b = o ∧ a < i + 1) then (if a = o then s.2 o b + s.2 t b else if b = o then s.2 o a + s.2 t a else s.2 a b) else s.2 a b)
      by_cases q1 : a = i ∧ b = o
      · rw [if_pos (by omega), if_pos (by omega), if_neg (by omega), if_pos q1.2, q1.1]
      · rw [if_neg (by omega)]
        by_cases q2 : a = o ∧ b = i
        · rw [if_pos (by omega), if_pos (by omega), if_pos q2.1, q2.2]
        · rw [if_neg (by omega)]
          by_cases q3 : (a = o ∧ b < i) ∨ (b = o ∧ a < i)
          · rw [if_pos q3, if_pos (by omega)]; rfl
          · rw [if_neg q3, if_neg (by omega)]
theorem ok_uniteC {F : Hp → Prop} {o t : Nat} (hd : 2 ≤ d) (hS : Std h.2.2) (V : VS σ) (J : JJ σ s) (G : GC σ s h) (ho : hdJ σ s o = true) (ht : hdJ σ s t = true) (hot : o < t)
    (hq : ∀ q, Fr [54, 55, 56] [(53, 1)] h q → GC σ (uniJ s o t) q → F q) : OKv d mX1_unite [.ref 53, .int (nI o), .int (nI t)] h F X := by
  have hD := V.d.2
  have on' := (stn_al (hd_1 ho).1).2
  have tn := (stn_al (hd_1 ht).1).2
  refine enX1_unite _ _ hd hS (ok_only (by omega) hS ?_)
  rw [nI_clamp (by omega), nI_clamp (by omega)]
  refine ⟨vin (by omega), vin (by omega), vin (by omega), vin (by omega), vin (by omega), vin (by omega), ?_⟩
  have hdn : ∀ a, hdJ σ (uniJ s o t) a = true → hdJ σ s a = true ∧ a ≠ t := fun a z => by
    rw [uni_hd J ho ht hot, Bool.and_eq_true, Bool.not_eq_true', decide_eq_false_iff_not] at z
    exact z
  have g1 : ∀ k, hb (h.2.1 53 1 &&& ((1 : Int64) <<< ((nI t).toInt64 &&& 63) ^^^ (-1))) k = hdJ σ (uniJ s o t) k := fun k => by
    rw [uni_hd J ho ht hot, hb_and, G.2.1 k]
    by_cases hk : k < 64
    · rw [hb_not hk, hb_only (by omega)]
    · have : hdJ σ s k = false := Bool.eq_false_iff.mpr fun z => by have := (stn_al (hd_1 z).1).2; omega
      rw [this, Bool.false_and, Bool.false_and]
  have mo : ∀ d, (uniJ s o t).1 d = if s.1 d = t then o else s.1 d := fun _ => rfl
  generalize hX : (1 : Int64) <<< ((nI t).toInt64 &&& 63) ^^^ (-1) = XX at g1 ⊢
  have f0 : Fr [54, 55] [(53, 1)] h (hL (hL (hL h 53 1 (h.2.1 53 1 &&& XX)) 54 o (h.2.1 54 o ||| h.2.1 54 t)) 55 o (h.2.1 55 o ||| h.2.1 55 t)) := Fr.tr Fr.pL (Fr.tr Fr.pL Fr.pL)
  refine lp_unite49 (h := hL (hL (hL h 53 1 (h.2.1 53 1 &&& XX)) 54 o (h.2.1 54 o ||| h.2.1 54 t)) 55 o (h.2.1 55 o ||| h.2.1 55 t)) (by omega) (f0.sd hS) V J ho ht hot (by rw [f0.i 53 0]; exact G.1) (fun k => by rw [hL_c (by decide), hL_c (by decide), hL_k]; exact g1 k) (fun a b ha hb' hab => by rw [f0.i 56]; exact G.2.2.2.2 a b ha hb' hab) (fun q fr R => hq q (Fr.tr (Fr.mono f0) (Fr.mono fr)) ⟨by rw [fr.i 53 0, f0.i 53 0]; exact G.1, fun k => by rw [fr.l 53 1, hL_c (by decide), hL_c (by decide), hL_k]; exact g1 k, fun a ha k => ?_, fun a ha k => ?_, R⟩) (nD σ) 0 _ (by omega) Fr.rf (fun c _ => rfl) fun a b ha hb' hab => by rw [if_neg (by omega), f0.i 56]; exact G.2.2.2.2 a b (hdn a ha).1 (hdn b hb').1 hab
  · rw [fr.l 54 a, hL_c (by decide), mo k]
    by_cases e : a = o
    · subst e
      rw [hL_k, hb_or, G.2.2.1 a ho, G.2.2.1 t ht]
      cases stn σ k
      · rfl
      · rw [Bool.true_and, Bool.true_and, Bool.true_and]
        by_cases y : s.1 k = t
        · rw [decide_eq_true y, Bool.or_true, if_pos y]; exact (decide_eq_true rfl).symm
        · rw [decide_eq_false y, Bool.or_false, if_neg y]
    · rw [hL_j e, hL_c (by decide), G.2.2.1 a (hdn a ha).1]
      congr 1
      have h2 := (hdn a ha).2
      by_cases y : s.1 k = t
      · rw [if_pos y, decide_eq_false (by omega), decide_eq_false (by omega)]
      · rw [if_neg y]
  · rw [fr.l 55 a]
    by_cases e : a = o
    · subst e
      rw [hL_k, hb_or, Bool.or_eq_true, G.2.2.2.1 a ho, G.2.2.2.1 t ht]
      refine ⟨fun z => ?_, fun ⟨i, p1, p2, p3⟩ => ?_⟩
      · obtain ⟨i, p1, p2, p3⟩ | ⟨i, p1, p2, p3⟩ := z
        · exact ⟨i, p1, by rw [mo i, if_neg (by omega)]; exact p2, p3⟩
        · exact ⟨i, p1, by rw [mo i, if_pos p2], p3⟩
      · by_cases y : s.1 i = t
        · exact Or.inr ⟨i, p1, y, p3⟩
        · rw [mo i, if_neg y] at p2
          exact Or.inl ⟨i, p1, p2, p3⟩
    · rw [hL_j e, hL_c (by decide), hL_c (by decide), G.2.2.2.1 a (hdn a ha).1]
      have h2 := (hdn a ha).2
      refine ⟨fun ⟨i, p1, p2, p3⟩ => ⟨i, p1, by rw [mo i, if_neg (by omega)]; exact p2, p3⟩, fun ⟨i, p1, p2, p3⟩ => ⟨i, p1, ?_, p3⟩⟩
      by_cases y : s.1 i = t
      · rw [mo i, if_pos y] at p2; omega
      · rw [mo i, if_neg y] at p2; exact p2
theorem ok_joinAll {F : Hp → Prop} (hd : 3 ≤ d) (hS : Std h.2.2) (V : VS σ) (J : JJ σ s) (G : GC σ s h) (hq : ∀ q, Fr [54, 55, 56] [(53, 1)] h q → GC σ (finJ σ 60 s) q → F q) : OKv d mX1_joinAll [.ref 53] h F X := by
  have hD := V.d.2
  have go : ∀ (n k : Nat) (r : JG) (q : Hp), k + n = 60 → Fr [54, 55, 56] [(53, 1)] h q → JJ σ r → GC σ r q → finJ σ n r = finJ σ 60 s → E mX1_joinAll 2 0 0 7 [(0, .ref 53), (1, .int (lkF σ r)), (2, .int (nI k))] [] q (Qv F) X := by
    intro n
    induction n with
    | zero =>
      intro k r q e fr Jr Gr ef
      have : k = 60 := by omega
      subst this
      have e0 : finJ σ 0 r = r := rfl
      rw [e0] at ef
      subst ef
      exact sgX1_joinAll_7 _ _ (Nat.le_refl _) (fr.sd hS) ⟨fun _ => hq q fr Gr, fun z => absurd (Int32.le_refl _) z⟩
    | succ n ih =>
      intro k r q e fr Jr Gr ef
      refine sgX1_joinAll_7 _ _ (Nat.le_refl _) (fr.sd hS) ⟨fun z => absurd z (nI_ge (a := k) (b := 60) (by omega) (by omega)), fun _ => ?_⟩
      obtain ⟨y, e1⟩ | ⟨o, t, h1, h2, h3, h4, y, e1⟩ := fin_step (σ := σ) (s := r) (n := n) hD
      · rw [e1] at ef
        subst ef
        exact ⟨fun _ => hq q fr Gr, fun z => absurd y z⟩
      · rw [e1] at ef
        have d1 : (60 * o + t) / 60 = o := by omega
        have d2 : (60 * o + t) % 60 = t := by omega
        rw [y]
        refine ⟨fun z => absurd z (nI_neg (by omega)), fun _ => ?_⟩
        rw [lit_nI 60, pk_rem (by omega) (by decide) (by decide), pk_div (by omega) (by decide) (by decide), d1, d2]
        refine ok_uniteC (s := r) (Nat.le_refl _) (fr.sd hS) V Jr Gr h3 h4 h1 fun q2 fr2 G2 => ok_likest (Nat.le_refl _) (fr2.sd (fr.sd hS)) V G2 ?_
        rw [nI_1]
        exact ih (k + 1) _ q2 (by omega) (Fr.tr fr fr2) (uni_J V Jr h3 h4 h1) G2 ef
  exact enX1_joinAll hd hS (ok_likest (Nat.le_refl _) hS V G (go 60 0 s h (by omega) Fr.rf J G rfl))
end UNITEC
