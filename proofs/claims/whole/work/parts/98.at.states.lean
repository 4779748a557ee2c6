/-! what holds of the state goes on -/
section VSW
variable {σ : Hp} {x y l : Int32}
theorem VS_place {a b : Nat} (V : VS σ) (hp : nP σ < 30) (ha : a ≤ 99) (hb' : b ≤ 99) : VS (stPlace σ (nI a) (nI b) l) := by
  have en : nP (stPlace σ (nI a) (nI b) l) = nP σ + 1 := stPlace_n hp
  obtain ⟨v1, v2, v3, v4, v5, v6, v7, v8, v9, v10, v11, v12, v13, v14, v15⟩ := V
  refine ⟨⟨by rw [en]; exact hI_k, by rw [en]; omega⟩, v2, v3, v4, v5, v6, v7, fun p hp' => ?_, fun d hd => ?_, v10, v11, fun k hk => ?_, v13, v14, v15⟩
  · rw [en] at hp'
    rw [stPlace_92, stPlace_93]
    by_cases q : p = nP σ
    · rw [if_pos q, if_pos q]; exact ⟨a, b, ha, hb', rfl, rfl⟩
    · rw [if_neg q, if_neg q]; exact v8 p (by omega)
  · have := v9 d hd
    refine ⟨⟨this.1.1, ?_⟩, this.2⟩
    rw [en]
    exact Nat.lt_succ_of_lt this.1.2
  · obtain z | ⟨p, h1, h2⟩ := v12 k hk
    · exact Or.inl z
    · exact Or.inr ⟨p, by rw [en]; omega, h2⟩
def stMark (σ : Hp) : Hp := hI σ 91 3 (nI (nM σ + 1))
theorem stMark_n (h : nM σ < 16) : nM (stMark σ) = nM σ + 1 := by
  have : (stMark σ).1 91 3 = nI (nM σ + 1) := hI_k
  rw [nM, this, nI_clamp (by omega)]
theorem VS_mark (V : VS σ) (hm : nM σ < 16) : VS (stMark σ) := by
  have en := stMark_n hm
  obtain ⟨v1, v2, v3, v4, v5, v6, v7, v8, v9, v10, v11, v12, v13, v14, v15⟩ := V
  exact ⟨v1, ⟨by rw [en]; exact hI_k, by rw [en]; omega⟩, v3, v4, v5, v6, v7, v8, v9, v10, v11, v12, v13, v14, v15⟩
def stHand (σ : Hp) (x : Int32) : Hp := hI (hI σ 95 (nH σ) x) 91 4 (nI (nH σ + 1))
theorem stHand_n (h : nH σ < 20) : nH (stHand σ x) = nH σ + 1 := by
  have : (stHand σ x).1 91 4 = nI (nH σ + 1) := hI_k
  rw [nH, this, nI_clamp (by omega)]
theorem VS_hand (V : VS σ) (hh : nH σ < 20) (hx : x = -1 ∨ ∃ p, p < nP σ ∧ x = nI p) : VS (stHand σ x) := by
  have en : nH (stHand σ x) = nH σ + 1 := stHand_n hh
  obtain ⟨v1, v2, v3, v4, v5, v6, v7, v8, v9, v10, v11, v12, v13, v14, v15⟩ := V
  refine ⟨v1, v2, ⟨by rw [en]; exact hI_k, by rw [en]; omega⟩, v4, v5, v6, v7, v8, fun d hd => ?_, v10, v11, fun k hk => ?_, v13, v14, v15⟩
  · have := v9 d hd
    refine ⟨this.1, this.2.1, ?_, this.2.2.2⟩
    obtain z | ⟨j, k, h1, h2, z⟩ := this.2.2.1
    · exact Or.inl z
    · exact Or.inr ⟨j, k, by rw [en]; omega, by rw [en]; omega, z⟩
  · rw [en] at hk
    have e : (stHand σ x).1 95 k = if k = nH σ then x else σ.1 95 k := by rw [stHand, hI_c (by decide), hI_if]
    rw [e]
    by_cases q : k = nH σ
    · rw [if_pos q]; exact hx
    · rw [if_neg q]; exact v12 k (by omega)
def stOff (σ : Hp) (x y : Int32) : Hp := hI (hI (hI σ 96 (nO σ) x) 97 (nO σ) y) 91 5 (nI (nO σ + 1))
theorem stOff_n (h : nO σ < 10) : nO (stOff σ x y) = nO σ + 1 := by
  have : (stOff σ x y).1 91 5 = nI (nO σ + 1) := hI_k
  rw [nO, this, nI_clamp (by omega)]
theorem VS_officer (V : VS σ) (hm : nO σ < 10) : VS (stOff σ x y) := by
  have en : nO (stOff σ x y) = nO σ + 1 := stOff_n hm
  obtain ⟨v1, v2, v3, v4, v5, v6, v7, v8, v9, v10, v11, v12, v13, v14, v15⟩ := V
  exact ⟨v1, v2, v3, ⟨by rw [en]; exact hI_k, by rw [en]; omega⟩, v5, v6, v7, v8, v9, v10, v11, v12, v13, v14, v15⟩
theorem VS_add {q f t : Nat} (V : VS σ) (hq : q < nP σ) (h60 : nD σ < 60) (hf : f ≤ t) (ht : t ≤ 99999) : VS (stAdd σ (nI q) (nI f) (nI t)) := by
  have en : nD (stAdd σ (nI q) (nI f) (nI t)) = nD σ + 1 := stAdd_n h60
  have pl := fun {k} (hk : k ≤ nD σ) => stAdd_plc (f := nI f) (t := nI t) V hq h60 hk
  have F14 := fun {d} => V.fr (d := d)
  have fr : Fr [98, 99, 100, 101, 102, 103] [(91, 6)] σ (stAdd σ (nI q) (nI f) (nI t)) := stAdd_fr
  obtain ⟨v1, v2, v3, v4, v5, v6, v7, v8, v9, v10, v11, v12, v13, v14, v15⟩ := V
  have ea : ∀ a, al σ a = true → al (stAdd σ (nI q) (nI f) (nI t)) a = true := fun a h => by
    have h1 := al_lt h
    rw [al_gone h1] at h
    rw [al_gone (by rw [en]; omega), fr.i 105 a]; exact h
  refine ⟨v1, v2, v3, v4, ⟨by rw [en]; exact hI_k, by rw [en]; omega⟩, v6, v7, v8, fun d hd => ?_, v10, v11, v12, fun k hk => ?_, fun d h1 h2 => ?_, fun a b ha hb' hab => ?_⟩
  · rw [en] at hd
    refine ⟨pl (by omega), ?_⟩
    rw [stAdd_99, stAdd_100, fr.i 104 d, fr.i 105 d]
    have eh : Hand (stAdd σ (nI q) (nI f) (nI t)) d ↔ ((if d = nD σ then (-1 : Int32) else σ.1 102 d) = -1 ∧ (if d = nD σ then (-1 : Int32) else σ.1 103 d) = -1) ∨ ∃ j k, j < nH σ ∧ k < nH σ ∧ (if d = nD σ then (-1 : Int32) else σ.1 102 d) = nI j ∧ (if d = nD σ then (-1 : Int32) else σ.1 103 d) = nI k := by
      rw [Hand, stAdd_102, stAdd_103]; exact Iff.rfl
    rw [eh]
    by_cases z : d = nD σ
    · rw [if_pos z, if_pos z, if_pos z, if_pos z]
      have := v14 d (by omega) (by omega)
      exact ⟨⟨f, t, hf, ht, rfl, rfl⟩, Or.inl ⟨rfl, rfl⟩, Or.inl this.1, Or.inl this.2.1⟩
    · rw [if_neg z, if_neg z, if_neg z, if_neg z]
      exact (v9 d (by omega)).2
  · obtain ⟨a, b, e1, e2, e3, e4, e5⟩ := v13 k hk
    exact ⟨a, b, e1, e2, ea a e3, ea b e4, e5⟩
  · rw [en] at h1
    exact v14 d (by omega) h2
  · have := v15 a b ha hb' hab
    exact ⟨this.1, by rw [en]; omega, by rw [en]; omega⟩
theorem VS_doubt {a : Nat} {b : Bool} (V : VS σ) (ha : a < nD σ) : VS (hI σ 104 a (bI b)) := by
  obtain ⟨v1, v2, v3, v4, v5, v6, v7, v8, v9, v10, v11, v12, v13, v14, v15⟩ := V
  refine ⟨v1, v2, v3, v4, v5, v6, v7, v8, fun d hd => ?_, v10, v11, v12, v13, fun d h1 h2 => ?_, v15⟩
  · have := v9 d hd
    refine ⟨this.1, this.2.1, this.2.2.1, ?_, this.2.2.2.2⟩
    rw [hI_if]
    by_cases z : d = a
    · rw [if_pos z]; exact bI_01 b
    · rw [if_neg z]; exact this.2.2.2.1
  · have h1 : nD σ ≤ d := h1
    refine ⟨?_, (v14 d h1 h2).2⟩
    rw [hI_j (by omega)]; exact (v14 d h1 h2).1
theorem VS_solve {a : Nat} (V : VS σ) (ha : a < nD σ) (hx : (x = -1 ∧ y = -1) ∨ ∃ j k, j < nH σ ∧ k < nH σ ∧ x = nI j ∧ y = nI k) : VS (stSolve σ a x y) := by
  obtain ⟨v1, v2, v3, v4, v5, v6, v7, v8, v9, v10, v11, v12, v13, v14, v15⟩ := V
  refine ⟨v1, v2, v3, v4, v5, v6, v7, v8, fun d hd => ?_, v10, v11, v12, v13, v14, v15⟩
  have := v9 d hd
  refine ⟨this.1, this.2.1, ?_, this.2.2.2⟩
  rw [Hand, stSolve_1, stSolve_2]
  by_cases z : d = a
  · rw [if_pos z, if_pos z]; exact hx
  · rw [if_neg z, if_neg z]; exact this.2.2.1
theorem VS_bar {a b : Nat} (V : VS σ) (ha : a < nD σ) (hb' : b < nD σ) : VS (stBar σ a b) := by
  have hD := V.d.2
  obtain ⟨v1, v2, v3, v4, v5, v6, v7, v8, v9, v10, v11, v12, v13, v14, v15⟩ := V
  refine ⟨v1, v2, v3, v4, v5, v6, v7, v8, v9, fun j => ?_, v11, v12, v13, v14, fun p q hp hq hpq => ?_⟩
  · rw [stBar_1]
    split
    · exact Or.inr rfl
    · exact v10 j
  · rw [stBar_bar (by omega) (by omega) hq] at hpq
    rw [stBar_bar (by omega) (by omega) hp]
    simp only [Bool.or_eq_true, Bool.and_eq_true, decide_eq_true_eq] at hpq ⊢
    obtain (z | z) | z := hpq
    · have := v15 p q hp hq z
      exact ⟨Or.inl (Or.inl this.1), this.2⟩
    · exact ⟨Or.inr ⟨z.2, z.1⟩, by rw [z.1]; exact ha, by rw [z.2]; exact hb'⟩
    · exact ⟨Or.inl (Or.inr ⟨z.2, z.1⟩), by rw [z.1]; exact hb', by rw [z.2]; exact ha⟩
theorem VS_link {a b : Nat} (V : VS σ) (hl : nL σ < 40) (ha : al σ a = true) (hb' : al σ b = true) (hab : a ≠ b) : VS (stLink σ x (nI a) (nI b)) := by
  have en : nL (stLink σ x (nI a) (nI b)) = nL σ + 1 := stLink_n hl
  obtain ⟨v1, v2, v3, v4, v5, v6, v7, v8, v9, v10, v11, v12, v13, v14, v15⟩ := V
  refine ⟨v1, v2, v3, v4, v5, ⟨by rw [en]; exact hI_k, by rw [en]; omega⟩, v7, v8, v9, v10, v11, v12, fun k hk => ?_, v14, v15⟩
  rw [en] at hk
  rw [stLink, hI_c (show (110 : Nat) ≠ 91 by decide), hI_c (show (110 : Nat) ≠ 111 by decide), hI_if, hI_c (show (110 : Nat) ≠ 109 by decide), hI_c (show (111 : Nat) ≠ 91 by decide), hI_if, hI_c (show (111 : Nat) ≠ 110 by decide), hI_c (show (111 : Nat) ≠ 109 by decide)]
  by_cases z : k = nL σ
  · rw [if_pos z, if_pos z]; exact ⟨a, b, rfl, rfl, ha, hb', hab⟩
  · rw [if_neg z, if_neg z]; exact v13 k (by omega)
/-- what a deed's state of a mark is told to be -/
def stTell (σ : Hp) (a m : Nat) (s : Int32) : Hp := if lnk σ (nI a) (nL σ) = 0 then hI (hI σ 107 (16 * a + m) s) 108 (16 * a + m) s else hI σ 107 (16 * a + m) s
theorem stTell_fr {a m : Nat} {s : Int32} : Fr [107, 108] [] σ (stTell σ a m s) := by
  rw [stTell]; split
  · exact Fr.tr Fr.pI Fr.pI
  · exact Fr.pI
theorem stTell_1 {a m : Nat} {s : Int32} (k : Nat) : (stTell σ a m s).1 107 k = if k = 16 * a + m then s else σ.1 107 k := by
  rw [stTell]; split
  · rw [hI_c (by decide), hI_if]
  · rw [hI_if]
theorem stTell_2 {a m : Nat} {s : Int32} (k : Nat) : (stTell σ a m s).1 108 k = if lnk σ (nI a) (nL σ) = 0 ∧ k = 16 * a + m then s else σ.1 108 k := by
  rw [stTell]
  by_cases z : lnk σ (nI a) (nL σ) = 0
  · rw [if_pos z, hI_if, hI_c (by decide)]
    by_cases w : k = 16 * a + m
    · rw [if_pos w, if_pos ⟨z, w⟩]
    · rw [if_neg w, if_neg fun u => w u.2]
  · rw [if_neg z, hI_c (by decide), if_neg fun u => z u.1]
theorem VS_tell {a m : Nat} {s : Int32} (V : VS σ) (ha : a < nD σ) (hm : m < 16) (hs : S03 s) : VS (stTell σ a m s) := by
  have f : Fr [107, 108] [] σ (stTell σ a m s) := stTell_fr
  have eD : nD (stTell σ a m s) = nD σ := by rw [nD, nD, f.i 91 6]
  have eH : nH (stTell σ a m s) = nH σ := by rw [nH, nH, f.i 91 4]
  have eP : nP (stTell σ a m s) = nP σ := by rw [nP, nP, f.i 91 2]
  have eL : nL (stTell σ a m s) = nL σ := by rw [nL, nL, f.i 91 7]
  have pl : ∀ d, plc (stTell σ a m s) d = plc σ d := fun d => by rw [plc, plc, f.i 98]
  have ea : ∀ d, al (stTell σ a m s) d = al σ d := fun d => by rw [al, al, eD, f.i 105]
  have eb : ∀ p q, bar (stTell σ a m s) p q = bar σ p q := fun p q => by rw [bar, bar, f.i 106]
  obtain ⟨v1, v2, v3, v4, v5, v6, v7, v8, v9, v10, v11, v12, v13, v14, v15⟩ := V
  refine ⟨?_, ?_, ?_, ?_, ?_, ?_, ?_, fun p hp => ?_, fun d hd => ?_, fun j => ?_, fun j => ⟨?_, ?_⟩, fun k hk => ?_, fun k hk => ?_, fun d h1 h2 => ?_, fun p q hp hq hpq => ?_⟩
  · rw [eP, f.i 91 2]; exact v1
  · have : nM (stTell σ a m s) = nM σ := by rw [nM, nM, f.i 91 3]
    rw [this, f.i 91 3]; exact v2
  · rw [eH, f.i 91 4]; exact v3
  · have : nO (stTell σ a m s) = nO σ := by rw [nO, nO, f.i 91 5]
    rw [this, f.i 91 5]; exact v4
  · rw [eD, f.i 91 6]; exact v5
  · rw [eL, f.i 91 7]; exact v6
  · have : nK (stTell σ a m s) = nK σ := by rw [nK, nK, f.i 91 8]
    rw [this, f.i 91 8]; exact v7
  · rw [eP] at hp
    rw [f.i 92, f.i 93]; exact v8 p hp
  · rw [eD] at hd
    rw [pl, eP, f.i 98, f.i 99, f.i 100, Hand, eH, f.i 102, f.i 103, f.i 104, f.i 105]; exact v9 d hd
  · rw [f.i 106]; exact v10 j
  · rw [stTell_1]; split
    · exact hs
    · exact (v11 j).1
  · rw [stTell_2]; split
    · exact hs
    · exact (v11 j).2
  · rw [eH] at hk
    rw [eP, f.i 95]; exact v12 k hk
  · rw [eL] at hk
    obtain ⟨p, q, e1, e2, e3, e4, e5⟩ := v13 k hk
    exact ⟨p, q, by rw [f.i 110]; exact e1, by rw [f.i 111]; exact e2, by rw [ea]; exact e3, by rw [ea]; exact e4, e5⟩
  · rw [eD] at h1
    have := v14 d h1 h2
    refine ⟨by rw [f.i 104]; exact this.1, by rw [f.i 105]; exact this.2.1, fun k hk => ?_⟩
    rw [lst, pln, stTell_1, stTell_2, if_neg (by omega), if_neg (by omega)]
    exact this.2.2 k hk
  · rw [eb] at hpq ⊢
    rw [eD]; exact v15 p q hp hq hpq
/-! links that are left -/
def DlP (σ : Hp) (x : Int32) (i : Nat) : Prop := (∀ k, k < (dlS σ x i).2 → ∃ k', k' < i ∧ (dlS σ x i).1.1 110 k = σ.1 110 k' ∧ (dlS σ x i).1.1 111 k = σ.1 111 k' ∧ σ.1 110 k' ≠ x ∧ σ.1 111 k' ≠ x) ∧ ∀ k, i ≤ k → (dlS σ x i).1.1 110 k = σ.1 110 k ∧ (dlS σ x i).1.1 111 k = σ.1 111 k
theorem dlP (x : Int32) : ∀ i, DlP σ x i
  | 0 => ⟨fun k hk => absurd hk (Nat.not_lt_zero _), fun _ _ => ⟨rfl, rfl⟩⟩
  | i + 1 => by
    have ih := dlP x i
    have le := dlS_le (σ := σ) (a := x) i
    obtain ⟨e1, e2⟩ := ih.2 i (Nat.le_refl _)
    by_cases q : (dlS σ x i).1.1 110 i = x ∨ (dlS σ x i).1.1 111 i = x
    · have es : dlS σ x (i + 1) = dlS σ x i := by rw [dlS, if_pos q]
      refine ⟨fun k hk => ?_, fun k hk => ?_⟩
      · rw [es] at hk ⊢
        obtain ⟨k', h1, h2⟩ := ih.1 k hk
        exact ⟨k', by omega, h2⟩
      · rw [es]; exact ih.2 k (by omega)
    · have es : dlS σ x (i + 1) = (hI (hI (hI (dlS σ x i).1 109 (dlS σ x i).2 ((dlS σ x i).1.1 109 i)) 110 (dlS σ x i).2 ((dlS σ x i).1.1 110 i)) 111 (dlS σ x i).2 ((dlS σ x i).1.1 111 i), (dlS σ x i).2 + 1) := by rw [dlS, if_neg q]
      have s1 : ∀ k, (dlS σ x (i + 1)).1.1 110 k = if k = (dlS σ x i).2 then (dlS σ x i).1.1 110 i else (dlS σ x i).1.1 110 k := fun k => by
        rw [es, hI_c (by decide), hI_if, hI_c (by decide)]
      have s2 : ∀ k, (dlS σ x (i + 1)).1.1 111 k = if k = (dlS σ x i).2 then (dlS σ x i).1.1 111 i else (dlS σ x i).1.1 111 k := fun k => by
        rw [es, hI_if, hI_c (by decide), hI_c (by decide)]
      have s3 : (dlS σ x (i + 1)).2 = (dlS σ x i).2 + 1 := by rw [es]
      refine ⟨fun k hk => ?_, fun k hk => ?_⟩
      · rw [s3] at hk
        rw [s1, s2]
        by_cases y : k = (dlS σ x i).2
        · rw [if_pos y, if_pos y]
          exact ⟨i, by omega, e1, e2, fun z => q (Or.inl (e1.trans z)), fun z => q (Or.inr (e2.trans z))⟩
        · rw [if_neg y, if_neg y]
          obtain ⟨k', h1, h2⟩ := ih.1 k (by omega)
          exact ⟨k', by omega, h2⟩
      · rw [s1, s2, if_neg (by omega), if_neg (by omega)]
        exact ih.2 k (by omega)
def stForget (σ : Hp) (a : Nat) : Hp := stLeft (stGone σ a) (nI a)
theorem stForget_fr {a : Nat} : Fr [105, 109, 110, 111] [(91, 7)] σ (stForget σ a) := by
  have f1 : Fr [105, 109, 110, 111] [(91, 7)] σ (stGone σ a) := Fr.pI
  have f2 : Fr [109, 110, 111] [] (stGone σ a) (dlS (stGone σ a) (nI a) (nL (stGone σ a))).1 := dlS_fr _
  exact (f1.tr f2.mono).tr Fr.pI
theorem stForget_105 {a : Nat} (k : Nat) : (stForget σ a).1 105 k = if k = a then 1 else σ.1 105 k := by
  have f2 : Fr [109, 110, 111] [] (stGone σ a) (dlS (stGone σ a) (nI a) (nL (stGone σ a))).1 := dlS_fr _
  rw [stForget, stLeft, hI_c (by decide), f2.i 105, stGone, hI_if]
theorem stForget_n {a : Nat} (V : VS σ) : nL (stForget σ a) = (dlS (stGone σ a) (nI a) (nL σ)).2 ∧ (dlS (stGone σ a) (nI a) (nL σ)).2 ≤ nL σ := by
  have hL := V.l.2
  have le := dlS_le (σ := stGone σ a) (a := nI a) (nL σ)
  have : (stForget σ a).1 91 7 = nI (dlS (stGone σ a) (nI a) (nL σ)).2 := hI_k
  exact ⟨by rw [nL, this, nI_clamp (by omega)], le⟩
theorem VS_forget {a : Nat} (V : VS σ) (ha : al σ a = true) : VS (stForget σ a) := by
  have hL := V.l.2
  have hD := V.d.2
  have haD := al_lt ha
  have f : Fr [105, 109, 110, 111] [(91, 7)] σ (stForget σ a) := stForget_fr
  have en := stForget_n (a := a) V
  have P := dlP (σ := stGone σ a) (nI a) (nL σ)
  have eD : nD (stForget σ a) = nD σ := by rw [nD, nD, f.i 91 6]
  have eH : nH (stForget σ a) = nH σ := by rw [nH, nH, f.i 91 4]
  have eP : nP (stForget σ a) = nP σ := by rw [nP, nP, f.i 91 2]
  have pl : ∀ d, plc (stForget σ a) d = plc σ d := fun d => by rw [plc, plc, f.i 98]
  have eb : ∀ p q, bar (stForget σ a) p q = bar σ p q := fun p q => by rw [bar, bar, f.i 106]
  have ea : ∀ d, al σ d = true → nI d ≠ nI a → al (stForget σ a) d = true := fun d h hne => by
    have h1 := al_lt h
    rw [al_gone h1] at h
    rw [al_gone (by rw [eD]; exact h1), stForget_105, if_neg fun z => hne (by rw [z])]; exact h
  obtain ⟨v1, v2, v3, v4, v5, v6, v7, v8, v9, v10, v11, v12, v13, v14, v15⟩ := V
  refine ⟨?_, ?_, ?_, ?_, ?_, ?_, ?_, fun p hp => ?_, fun d hd => ?_, fun j => ?_, fun j => ?_, fun k hk => ?_, fun k hk => ?_, fun d h1 h2 => ?_, fun p q hp hq hpq => ?_⟩
  · rw [eP, f.i 91 2]; exact v1
  · have : nM (stForget σ a) = nM σ := by rw [nM, nM, f.i 91 3]
    rw [this, f.i 91 3]; exact v2
  · rw [eH, f.i 91 4]; exact v3
  · have : nO (stForget σ a) = nO σ := by rw [nO, nO, f.i 91 5]
    rw [this, f.i 91 5]; exact v4
  · rw [eD, f.i 91 6]; exact v5
  · rw [en.1]; exact ⟨hI_k, by omega⟩
  · have : nK (stForget σ a) = nK σ := by rw [nK, nK, f.i 91 8]
    rw [this, f.i 91 8]; exact v7
  · rw [eP] at hp
    rw [f.i 92, f.i 93]; exact v8 p hp
  · rw [eD] at hd
    rw [pl, eP, f.i 98, f.i 99, f.i 100, Hand, eH, f.i 102, f.i 103, f.i 104, stForget_105]
    have := v9 d hd
    refine ⟨this.1, this.2.1, this.2.2.1, this.2.2.2.1, ?_⟩
    split
    · exact Or.inr rfl
    · exact this.2.2.2.2
  · rw [f.i 106]; exact v10 j
  · rw [f.i 107, f.i 108]; exact v11 j
  · rw [eH] at hk
    rw [eP, f.i 95]; exact v12 k hk
  · rw [en.1] at hk
    obtain ⟨k', h1, h2, h3, h4, h5⟩ := P.1 k hk
    obtain ⟨p, q, e1, e2, e3, e4, e5⟩ := v13 k' h1
    have e1 : (stGone σ a).1 110 k' = nI p := e1
    have e2 : (stGone σ a).1 111 k' = nI q := e2
    rw [e1] at h2 h4
    rw [e2] at h3 h5
    exact ⟨p, q, h2, h3, ea p e3 h4, ea q e4 h5, e5⟩
  · rw [eD] at h1
    have := v14 d h1 h2
    refine ⟨by rw [f.i 104]; exact this.1, by rw [stForget_105, if_neg (by omega)]; exact this.2.1, fun k hk => ?_⟩
    rw [lst, pln, f.i 107, f.i 108]; exact this.2.2 k hk
  · rw [eb] at hpq ⊢
    rw [eD]; exact v15 p q hp hq hpq
theorem VS_keep {v : Int32} (V : VS σ) (hk : nK σ < 20) : VS (stKeep σ v) := by
  have en : nK (stKeep σ v) = nK σ + 1 := stKeep_n hk
  obtain ⟨v1, v2, v3, v4, v5, v6, v7, v8, v9, v10, v11, v12, v13, v14, v15⟩ := V
  exact ⟨v1, v2, v3, v4, v5, v6, ⟨by rw [en]; exact hI_k, by rw [en]; omega⟩, v8, v9, v10, v11, v12, v13, v14, v15⟩
end VSW
